/-! ===== the making of the objects ===== -/
section
theorem tx_177 : Cond.methodLink RX4 1 objectInit ∈ TB := tb_of (i := 177) (by decide +kernel) rfl
theorem tx_178 : Cond.methodLink RX4 7 Lib.Math.max.name ∈ TB := tb_of (i := 178) (by decide +kernel) rfl
theorem tx_181 : Cond.classLink RX4 13 RX0 ∈ TB := tb_of (i := 181) (by decide +kernel) rfl
theorem tx_183 : Cond.methodLink RX4 21 m_X0_init.1 ∈ TB := tb_of (i := 183) (by decide +kernel) rfl
variable {Γ : Gm} {w : Wd}
/-- what stands at such places stands, more may have been made -/
def Gq (P : Nat → Prop) (w u : Wd) : Prop := w.1 ≤ u.1 ∧ ∀ a, P a → (∀ k, wI u a k = wI w a k) ∧ ∀ k, wR u a k = wR w a k
theorem wI_nw (w : Wd) (a : Nat) (k : Int) : wI (nwW w) a k = if a = w.1 then 0 else wI w a k := rfl
theorem wR_nw (w : Wd) (a : Nat) (k : Int) : wR (nwW w) a k = if a = w.1 then .null else wR w a k := rfl
theorem Gq.rfl {P : Nat → Prop} {w : Wd} : Gq P w w := ⟨Nat.le_refl _, fun _ _ => ⟨fun _ => Eq.refl _, fun _ => Eq.refl _⟩⟩
theorem Gq.trans {P : Nat → Prop} {w u v : Wd} (h : Gq P w u) (g : Gq P u v) : Gq P w v := ⟨Nat.le_trans h.1 g.1, fun a ha => ⟨fun k => ((g.2 a ha).1 k).trans ((h.2 a ha).1 k), fun k => ((g.2 a ha).2 k).trans ((h.2 a ha).2 k)⟩⟩
theorem Gq.less {P R : Nat → Prop} {w u : Wd} (h : Gq P w u) (hp : ∀ a, R a → P a) : Gq R w u := ⟨h.1, fun a ha => h.2 a (hp a ha)⟩
theorem Gq.nw {P : Nat → Prop} {w : Wd} (h : ∀ a, P a → a < w.1) : Gq P w (nwW w) := ⟨Nat.le_succ _, fun a ha => ⟨fun k => by rw [wI_nw, if_neg (by have := h a ha; omega)], fun k => by rw [wR_nw, if_neg (by have := h a ha; omega)]⟩⟩
theorem Gq.stR {P : Nat → Prop} {w : Wd} {r : Nat} {k : Int} {v : Value} (h : ¬ P r) : Gq P w (stR w r k v) := ⟨Nat.le_refl _, fun a ha => ⟨fun _ => Eq.refl _, fun i => by
  rw [wR_stR, if_neg]
  rintro ⟨rfl, -⟩
  exact h ha⟩⟩
theorem Gq.fr {P R : Nat → Prop} {w u : Wd} (g : Fr R w u) (h : ∀ a, P a → ¬ R a) : Gq P w u := ⟨by rw [g.1]; exact Nat.le_refl _, fun a ha => ⟨fun k => g.2.1 a (h a ha) k, fun k => g.2.2 a k⟩⟩
theorem Gq.sh {P : Nat → Prop} {w u : Wd} (g : Gq P w u) {a : Nat} {x : Sh} (h : sh w a = some x) : sh u a = some x := by
  show (if a < u.1 then shp[a]? else none) = some x
  have h : (if a < w.1 then shp[a]? else none) = some x := h
  split at h
  · rw [if_pos (by have := g.1; omega)]; exact h
  · cases h
theorem sh_in {w : Wd} {a : Nat} {x : Sh} (h : a < w.1) (hs : shp[a]? = some x) : sh w a = some x := by
  unfold sh
  rw [if_pos h]; exact hs
theorem sh_nw {w : Wd} {a : Nat} {x : Sh} (h : sh w a = some x) : sh (nwW w) a = some x := (Gq.nw (P := fun _ => False) (fun _ h => h.elim)).sh h
theorem RoomS.gq {P : Nat → Prop} {w u : Wd} {r : Nat} (h : RoomS w r) (g : Gq P w u) (hp : P r) : RoomS u r := by
  obtain ⟨s0, s1, s2, s3, s4, s5, t0, t1, t2, t3, t4⟩ := h
  have e := (g.2 r hp).2
  exact ⟨g.sh s0, g.sh s1, g.sh s2, g.sh s3, g.sh s4, g.sh s5, by rw [e]; exact t0, by rw [e]; exact t1, by rw [e]; exact t2, by rw [e]; exact t3, by rw [e]; exact t4⟩
theorem CarS.gq {P : Nat → Prop} {w u : Wd} {c : Nat} (h : CarS w c) (g : Gq P w u) (hp : P c) : CarS u c := by
  obtain ⟨s0, s1, s2, t0, t1⟩ := h
  have e := (g.2 c hp).2
  exact ⟨g.sh s0, g.sh s1, g.sh s2, by rw [e]; exact t0, by rw [e]; exact t1⟩
theorem ShS.gq {P : Nat → Prop} {w u : Wd} {s m : Nat} (h : ShS w s m) (g : Gq P w u) (hp : ∀ a, s ≤ a → a < s + 2 + 3 * m → P a) : ShS u s m := by
  obtain ⟨h0, h1, h2, h3⟩ := h
  exact ⟨g.sh h0, g.sh h1, by rw [(g.2 s (hp s (by omega) (by omega))).2]; exact h2, fun i hi => ⟨by rw [(g.2 (s + 1) (hp _ (by omega) (by omega))).2]; exact (h3 i hi).1, (h3 i hi).2.gq g (hp _ (by omega) (by omega))⟩⟩
theorem sp_carClr {c : Nat} {a : Int} (hS : CarS w c) : SpV Γ m_X0_clear [vR c, vI a] w (fun u => Fr (Pc3 c) w u) := by
  have key : ∀ (n k : Nat) (u : Wd), k + n = 4 → Fr (Pc3 c) w u → G Γ m_X0_clear (fun v u => v = none ∧ Fr (Pc3 c) w u) 0 0 2 [some (vR c), some (vI a), some (vI k)] [] u := by
    intro n
    induction n with
    | zero =>
      intro k u hk hF
      obtain ⟨x0, x1, x2, y0, y1⟩ := hS.fr hF
      have y : ∀ {v : Wd} {k a : Int}, Fr (Pc3 c) v (stI v c k a) := Fr.st ⟨by omega, by omega⟩
      exact k_X0_clear_2 (fun _ => k_X0_clear_22 ⟨rfl, hF.trans (((((y.trans y).trans y).trans y).trans y).trans y)⟩) (fun q => absurd q (by omega))
    | succ n ih =>
      intro k u hk hF
      obtain ⟨x0, x1, x2, y0, y1⟩ := hS.fr hF
      refine k_X0_clear_2 (fun q => absurd q (by omega)) (fun _ => k_X0_clear_7 (q1 := c + 2) (sp_put (n := 4) x2 (by omega) (by omega)) (fun v hv => k_X0_clear_16 ?_))
      have := ih (k + 1) v (by omega) (by rw [hv]; exact hF.trans (Fr.st ⟨by omega, by omega⟩))
      rw [Int.natCast_add] at this
      exact this
  exact i_X0_clear (k_X0_clear_0 (key 4 0 w rfl Fr.rfl))
/-- a new array stored into field k of r -/
abbrev mk (w : Wd) (r : Nat) (k : Int) : Wd := stR (nwW w) r k (vR w.1)
theorem mk_hit {w : Wd} {r : Nat} {k : Int} : wR (mk w r k) r k = vR w.1 := by rw [wR_stR, if_pos ⟨rfl, rfl⟩]
theorem mk_skip {w : Wd} {r : Nat} {k j : Int} (h : r < w.1) (hj : j ≠ k) : wR (mk w r k) r j = wR w r j := by rw [wR_stR, if_neg (fun q => hj q.2), wR_nw, if_neg (by omega)]
theorem mk_gq {P : Nat → Prop} {w : Wd} {r : Nat} {k : Int} (hp : ∀ a, P a → a < w.1 ∧ a ≠ r) : Gq P w (mk w r k) := (Gq.nw (fun a ha => (hp a ha).1)).trans (Gq.stR (fun q => (hp r q).2 rfl))
theorem sp_carInit {c : Nat} (hc : w.1 = c + 1) (h0 : shp[c]? = some (.inr 0)) (h1 : shp[c + 1]? = some (.inl (0, 12))) (h2 : shp[c + 2]? = some (.inl (0, 4))) : SpV Γ m_X0_init [vR c] w (fun u => CarS u c ∧ u.1 = c + 3 ∧ Gq (fun a => a < c) w u) := by
  have s0 : sh w c = some (.inr 0) := sh_in (by omega) h0
  have n1 : (mk w c 0).1 = c + 2 := by show w.1 + 1 = _; omega
  have n2 : (mk (mk w c 0) c 1).1 = c + 3 := by show w.1 + 1 + 1 = _; omega
  have g1 : Gq (fun a => a < c) w (mk (mk w c 0) c 1) := (mk_gq (fun a ha => ⟨by omega, by omega⟩)).trans (mk_gq (fun a ha => ⟨by omega, by omega⟩))
  have S : CarS (mk (mk w c 0) c 1) c := ⟨sh_in (by omega) h0, sh_in (by omega) h1, sh_in (by omega) h2, by rw [mk_skip (by omega) (by decide), mk_hit, hc], by rw [mk_hit, n1]⟩
  refine i_X0_init (k_X0_init_0 (h1 := ⟨_, s0⟩) (h2 := by rw [hc]; exact h1) (h4 := sh_nw s0) (h5 := by show shp[(mk w c 0).1]? = _; rw [n1]; exact h2) (h7 := sh_nw (sh_nw s0)) (h9 := S.1) (sp_carClr S) (fun u hu => k_X0_init_24 ⟨rfl, S.fr hu, ?_, g1.trans (Gq.fr hu (fun a ha q => by unfold Pc3 at q; omega))⟩))
  rw [hu.1]; exact n2
theorem sp_roomInit {r : Nat} (hc : w.1 = r + 1) (h0 : shp[r]? = some (.inr 3)) (h1 : shp[r + 1]? = some (.inl (0, 12))) (h2 : shp[r + 2]? = some (.inl (0, 12))) (h3 : shp[r + 3]? = some (.inl (0, 12))) (h4 : shp[r + 4]? = some (.inl (0, 12))) (h5 : shp[r + 5]? = some (.inl (0, 3))) : SpV Γ m_X3_init [vR r] w (fun u => RoomS u r ∧ u.1 = r + 6 ∧ Gq (fun a => a < r) w u) := by
  have s0 : sh w r = some (.inr 3) := sh_in (by omega) h0
  have n1 : (mk w r 0).1 = r + 2 := by show w.1 + 1 = _; omega
  have n2 : (mk (mk w r 0) r 1).1 = r + 3 := by show w.1 + 1 + 1 = _; omega
  have n3 : (mk (mk (mk w r 0) r 1) r 2).1 = r + 4 := by show w.1 + 1 + 1 + 1 = _; omega
  have n4 : (mk (mk (mk (mk w r 0) r 1) r 2) r 3).1 = r + 5 := by show w.1 + 1 + 1 + 1 + 1 = _; omega
  have n5 : (mk (mk (mk (mk (mk w r 0) r 1) r 2) r 3) r 4).1 = r + 6 := by show w.1 + 1 + 1 + 1 + 1 + 1 = _; omega
  have m1 : ∀ {v : Wd} {k : Int}, r < v.1 → Gq (fun a => a < r) v (mk v r k) := fun h => mk_gq (fun a ha => ⟨by omega, by omega⟩)
  have g1 : Gq (fun a => a < r) w (mk (mk (mk (mk (mk w r 0) r 1) r 2) r 3) r 4) := ((((m1 (by omega)).trans (m1 (by omega))).trans (m1 (by omega))).trans (m1 (by omega))).trans (m1 (by omega))
  have S : RoomS (mk (mk (mk (mk (mk w r 0) r 1) r 2) r 3) r 4) r := ⟨sh_in (by omega) h0, sh_in (by omega) h1, sh_in (by omega) h2, sh_in (by omega) h3, sh_in (by omega) h4, sh_in (by omega) h5,
    by rw [mk_skip (by omega) (by decide), mk_skip (by omega) (by decide), mk_skip (by omega) (by decide), mk_skip (by omega) (by decide), mk_hit, hc],
    by rw [mk_skip (by omega) (by decide), mk_skip (by omega) (by decide), mk_skip (by omega) (by decide), mk_hit, n1],
    by rw [mk_skip (by omega) (by decide), mk_skip (by omega) (by decide), mk_hit, n2],
    by rw [mk_skip (by omega) (by decide), mk_hit, n3], by rw [mk_hit, n4]⟩
  refine i_X3_init (k_X3_init_0 (h1 := ⟨_, s0⟩) (h2 := by rw [hc]; exact h1) (h4 := sh_nw s0) (h5 := by show shp[(mk w r 0).1]? = _; rw [n1]; exact h2) (h7 := sh_nw (sh_nw s0)) (h8 := by show shp[(mk (mk w r 0) r 1).1]? = _; rw [n2]; exact h3) (h10 := sh_nw (sh_nw (sh_nw s0))) ?_)
  have t3 : sh (mk (mk (mk w r 0) r 1) r 2) r = some (.inr 3) := sh_in (by omega) h0
  have sr := S.1
  refine k_X3_init_28 (h1 := by rw [n3]; exact h4) (h3 := sh_nw t3) (h4 := by show shp[(mk (mk (mk (mk w r 0) r 1) r 2) r 3).1]? = _; rw [n4]; exact h5) (h6 := sh_nw (sh_nw t3)) (h8 := sr) (i_X3_clear (k_X3_clear_0 ⟨rfl, rfl⟩) : SpV Γ m_X3_clear [vR r] (mk (mk (mk (mk (mk w r 0) r 1) r 2) r 3) r 4) (fun u => u = _)) (fun u hu => k_X3_init_47 ?_)
  have hF : Fr (fun a => a = r) (mk (mk (mk (mk (mk w r 0) r 1) r 2) r 3) r 4) u := by
    rw [hu]
    have y : ∀ {v : Wd} {k a : Int}, Fr (fun a => a = r) v (stI v r k a) := Fr.st rfl
    exact ((((((y.trans y).trans y).trans y).trans y).trans y).trans y).trans y
  exact ⟨rfl, S.fr hF, by rw [hF.1]; exact n5, g1.trans (Gq.fr hF (fun a ha q => by omega))⟩

theorem sp_shelfInit8 {s : Nat} (hc : w.1 = s + 1) (h0 : shp[s]? = some (.inr 4)) (h1 : shp[s + 1]? = some (.inl (2, 8))) (hr : ∀ i : Nat, i < 8 → shp[s + 2 + 3 * i]? = some (.inr 0) ∧ shp[s + 2 + 3 * i + 1]? = some (.inl (0, 12)) ∧ shp[s + 2 + 3 * i + 2]? = some (.inl (0, 4))) : SpV Γ m_X4_init [vR s, vI 8] w (fun u => ShS u s 8 ∧ u.1 = s + 2 + 3 * 8 ∧ Gq (fun a => a < s) w u ∧ ∀ k, wI u s k = wI w s k) := by
  have s0 : sh w s = some (.inr 4) := sh_in (by omega) h0
  have key : ∀ (n i : Nat) (u : Wd) (kc ks : Nat), i + n = 8 → kc = 1 + 3 * i → ks = 8 + 24 * i → u.1 = s + 2 + 3 * i → wR u s 0 = vR (s + 1) → (∀ j : Nat, j < i → wR u (s + 1) j = vR (s + 2 + 3 * j) ∧ CarS u (s + 2 + 3 * j)) → Gq (fun a => a < s) w u → (∀ k, wI u s k = wI w s k) → G Γ m_X4_init (fun v u => v = none ∧ ShS u s 8 ∧ u.1 = s + 2 + 3 * 8 ∧ Gq (fun a => a < s) w u ∧ ∀ k, wI u s k = wI w s k) kc ks 18 [some (vR s), some (vI 8), some (vI i)] [] u := by
    intro n
    induction n with
    | zero =>
      intro i u kc ks hi hkc hks hu hR hC hG hI
      have e : i = 8 := by omega
      subst e
      have a0 : sh u s = some (.inr 4) := sh_in (by omega) h0
      have a1 : sh u (s + 1) = some (.inl (2, 8)) := sh_in (by omega) h1
      refine G_iload_n dX4_init_18 rfl ?_
      refine G_aload_n dX4_init_19 rfl ?_
      refine G_getR dX4_init_20 fl_RX4_15 a0 rfl hR ?_
      refine G_alen dX4_init_23 a1 (by decide) ?_
      refine G_icmp_ge (tgt := 46) dX4_init_24 (by decide) (by decide) (by decide) (fun _ => ?_) (fun q => absurd (by decide) q)
      exact G_retv dX4_init_46 trivial ⟨hkc, by rw [hks]; decide⟩ ⟨rfl, ⟨a0, a1, hR, hC⟩, hu, hG, hI⟩
    | succ n ih =>
      intro i u kc ks hi hkc hks hu hR hC hG hI
      obtain ⟨r0, r1, r2⟩ := hr i (by omega)
      have a0 : sh u s = some (.inr 4) := sh_in (by omega) h0
      have a1 : sh u (s + 1) = some (.inl (2, 8)) := sh_in (by omega) h1
      refine G_iload_n dX4_init_18 rfl ?_
      refine G_aload_n dX4_init_19 rfl ?_
      refine G_getR dX4_init_20 fl_RX4_15 a0 rfl hR ?_
      refine G_alen dX4_init_23 a1 (by decide) ?_
      refine G_icmp_ge (tgt := 46) dX4_init_24 (by decide) ⟨by omega, by omega⟩ (by decide) (fun q => absurd q (by omega)) (fun _ => ?_)
      refine G_aload_n dX4_init_27 rfl ?_
      refine G_getR dX4_init_28 fl_RX4_15 a0 rfl hR ?_
      refine G_iload_n dX4_init_31 rfl ?_
      refine G_new dX4_init_32 cn_X0 tx_181 (by rw [hu]; exact r0) ⟨show kc + 1 ≤ 1 + 3 * 8 by omega, show ks + 8 ≤ 8 + 24 * 8 by omega⟩ ?_
      refine G_dup dX4_init_35 rfl ?_
      rw [hu]
      have hn : (nwW u).1 = s + 2 + 3 * i + 1 := by show u.1 + 1 = _; omega
      refine G_II (as := []) (st := [vR (s + 2 + 3 * i), vI i, vR (s + 1)]) dX4_init_36 (Or.inl tx_183) mc_X0_init rfl ⟨by decide, ⟨show kc + 1 + 2 ≤ 1 + 3 * 8 by omega, show ks + 8 + 16 ≤ 8 + 24 * 8 by omega⟩, Nat.le_of_ble_eq_true rfl⟩ (sh_in (by omega) r0) (sp_carInit hn r0 r1 r2) (fun v hv => ?_)
      obtain ⟨hCv, hv1, hGv⟩ := hv
      have a1v : sh v (s + 1) = some (.inl (2, 8)) := sh_in (by omega) h1
      have hGu : Gq (fun a => a < s + 2 + 3 * i) u v := (Gq.nw (by intro a ha; omega)).trans hGv
      refine G_aast dX4_init_39 a1v (by omega) (by decide) hCv.1 ?_
      refine G_iinc dX4_init_40 (by decide) rfl rfl ?_
      refine G_goto (tgt := 18) dX4_init_43 (by decide) ?_
      have hG3 : Gq (fun a => a < s + 2 + 3 * i ∧ a ≠ s + 1) u (stR v (s + 1) i (vR (s + 2 + 3 * i))) := (hGu.less (fun a ha => ha.1)).trans (Gq.stR (fun ha => ha.2 rfl))
      have hh := ih (i + 1) (stR v (s + 1) i (vR (s + 2 + 3 * i))) (kc + 1 + 2) (ks + 8 + 16) (by omega) (by omega) (by omega) (by show v.1 = _; omega) (by rw [(hG3.2 s ⟨by omega, by omega⟩).2]; exact hR) (fun j hj => ?_) (hG.trans (hG3.less (fun a ha => ⟨by omega, by omega⟩))) (fun k => by rw [(hG3.2 s ⟨by omega, by omega⟩).1]; exact hI k)
      · exact hh
      · by_cases e : j = i
        · subst e
          exact ⟨by rw [wR_stR, if_pos ⟨rfl, rfl⟩], hCv.gq (P := fun a => a ≠ s + 1) (Gq.stR (fun ha => ha rfl)) (by omega)⟩
        · have hj' := hC j (by omega)
          refine ⟨?_, hj'.2.gq hG3 ⟨by omega, by omega⟩⟩
          rw [wR_stR, if_neg (fun q => e (by omega)), (hGu.2 (s + 1) (by omega)).2]
          exact hj'.1
  refine i_X4_init ?_
  refine G_aload_n dX4_init_0 rfl ?_
  refine G_obj dX4_init_1 tx_177 tb_60 tb_61 ⟨_, s0⟩ (by decide) ?_
  refine G_aload_n dX4_init_4 rfl ?_
  refine G_const dX4_init_5 ?_
  refine G_iload_n dX4_init_6 rfl ?_
  refine G_mmax dX4_init_7 tx_178 tb_179 tb_44 tb_180 (by decide) (by decide) ⟨Nat.le_of_ble_eq_true rfl, Nat.le_of_ble_eq_true rfl⟩ ⟨Nat.le_of_ble_eq_true rfl, Nat.le_of_ble_eq_true rfl⟩ ?_
  refine G_newobj (n := 8) dX4_init_10 tx_181 (by rw [hc]; exact h1) (by decide) ⟨Nat.le_of_ble_eq_true rfl, Nat.le_of_ble_eq_true rfl⟩ ?_
  refine G_putR (ty := (.array (.object "StretchedCarpet$Carpet"))) dX4_init_13 fl_RX4_15 (sh_nw s0) rfl (fun _ => ⟨rfl, _, _, rfl⟩) (by decide +kernel) (fun _ => rfl) (fun _ => rfl) ?_
  refine G_const dX4_init_16 ?_
  refine G_istore_n dX4_init_17 (by decide) rfl ?_
  exact key 8 0 _ _ _ rfl rfl rfl (by show w.1 + 1 = _; omega) (by rw [wR_stR, if_pos ⟨rfl, rfl⟩, hc]) (fun j hj => by omega) ((Gq.nw (by intro a ha; omega)).trans (Gq.stR (fun ha => by omega))) (fun k => by show wI (nwW w) s k = _; rw [wI_nw, if_neg (by omega)])

theorem sp_shelfInit2 {s : Nat} (hc : w.1 = s + 1) (h0 : shp[s]? = some (.inr 4)) (h1 : shp[s + 1]? = some (.inl (2, 2))) (hr : ∀ i : Nat, i < 2 → shp[s + 2 + 3 * i]? = some (.inr 0) ∧ shp[s + 2 + 3 * i + 1]? = some (.inl (0, 12)) ∧ shp[s + 2 + 3 * i + 2]? = some (.inl (0, 4))) : SpV Γ m_X4_initB [vR s, vI 2] w (fun u => ShS u s 2 ∧ u.1 = s + 2 + 3 * 2 ∧ Gq (fun a => a < s) w u ∧ ∀ k, wI u s k = wI w s k) := by
  have s0 : sh w s = some (.inr 4) := sh_in (by omega) h0
  have key : ∀ (n i : Nat) (u : Wd) (kc ks : Nat), i + n = 2 → kc = 1 + 3 * i → ks = 2 + 24 * i → u.1 = s + 2 + 3 * i → wR u s 0 = vR (s + 1) → (∀ j : Nat, j < i → wR u (s + 1) j = vR (s + 2 + 3 * j) ∧ CarS u (s + 2 + 3 * j)) → Gq (fun a => a < s) w u → (∀ k, wI u s k = wI w s k) → G Γ m_X4_initB (fun v u => v = none ∧ ShS u s 2 ∧ u.1 = s + 2 + 3 * 2 ∧ Gq (fun a => a < s) w u ∧ ∀ k, wI u s k = wI w s k) kc ks 18 [some (vR s), some (vI 2), some (vI i)] [] u := by
    intro n
    induction n with
    | zero =>
      intro i u kc ks hi hkc hks hu hR hC hG hI
      have e : i = 2 := by omega
      subst e
      have a0 : sh u s = some (.inr 4) := sh_in (by omega) h0
      have a1 : sh u (s + 1) = some (.inl (2, 2)) := sh_in (by omega) h1
      refine G_iload_n dX4_init_18 rfl ?_
      refine G_aload_n dX4_init_19 rfl ?_
      refine G_getR dX4_init_20 fl_RX4_15 a0 rfl hR ?_
      refine G_alen dX4_init_23 a1 (by decide) ?_
      refine G_icmp_ge (tgt := 46) dX4_init_24 (by decide) (by decide) (by decide) (fun _ => ?_) (fun q => absurd (by decide) q)
      exact G_retv dX4_init_46 trivial ⟨hkc, by rw [hks]; decide⟩ ⟨rfl, ⟨a0, a1, hR, hC⟩, hu, hG, hI⟩
    | succ n ih =>
      intro i u kc ks hi hkc hks hu hR hC hG hI
      obtain ⟨r0, r1, r2⟩ := hr i (by omega)
      have a0 : sh u s = some (.inr 4) := sh_in (by omega) h0
      have a1 : sh u (s + 1) = some (.inl (2, 2)) := sh_in (by omega) h1
      refine G_iload_n dX4_init_18 rfl ?_
      refine G_aload_n dX4_init_19 rfl ?_
      refine G_getR dX4_init_20 fl_RX4_15 a0 rfl hR ?_
      refine G_alen dX4_init_23 a1 (by decide) ?_
      refine G_icmp_ge (tgt := 46) dX4_init_24 (by decide) ⟨by omega, by omega⟩ (by decide) (fun q => absurd q (by omega)) (fun _ => ?_)
      refine G_aload_n dX4_init_27 rfl ?_
      refine G_getR dX4_init_28 fl_RX4_15 a0 rfl hR ?_
      refine G_iload_n dX4_init_31 rfl ?_
      refine G_new dX4_init_32 cn_X0 tx_181 (by rw [hu]; exact r0) ⟨show kc + 1 ≤ 1 + 3 * 2 by omega, show ks + 8 ≤ 2 + 24 * 2 by omega⟩ ?_
      refine G_dup dX4_init_35 rfl ?_
      rw [hu]
      have hn : (nwW u).1 = s + 2 + 3 * i + 1 := by show u.1 + 1 = _; omega
      refine G_II (as := []) (st := [vR (s + 2 + 3 * i), vI i, vR (s + 1)]) dX4_init_36 (Or.inl tx_183) mc_X0_init rfl ⟨by decide, ⟨show kc + 1 + 2 ≤ 1 + 3 * 2 by omega, show ks + 8 + 16 ≤ 2 + 24 * 2 by omega⟩, Nat.le_of_ble_eq_true rfl⟩ (sh_in (by omega) r0) (sp_carInit hn r0 r1 r2) (fun v hv => ?_)
      obtain ⟨hCv, hv1, hGv⟩ := hv
      have a1v : sh v (s + 1) = some (.inl (2, 2)) := sh_in (by omega) h1
      have hGu : Gq (fun a => a < s + 2 + 3 * i) u v := (Gq.nw (by intro a ha; omega)).trans hGv
      refine G_aast dX4_init_39 a1v (by omega) (by decide) hCv.1 ?_
      refine G_iinc dX4_init_40 (by decide) rfl rfl ?_
      refine G_goto (tgt := 18) dX4_init_43 (by decide) ?_
      have hG3 : Gq (fun a => a < s + 2 + 3 * i ∧ a ≠ s + 1) u (stR v (s + 1) i (vR (s + 2 + 3 * i))) := (hGu.less (fun a ha => ha.1)).trans (Gq.stR (fun ha => ha.2 rfl))
      have hh := ih (i + 1) (stR v (s + 1) i (vR (s + 2 + 3 * i))) (kc + 1 + 2) (ks + 8 + 16) (by omega) (by omega) (by omega) (by show v.1 = _; omega) (by rw [(hG3.2 s ⟨by omega, by omega⟩).2]; exact hR) (fun j hj => ?_) (hG.trans (hG3.less (fun a ha => ⟨by omega, by omega⟩))) (fun k => by rw [(hG3.2 s ⟨by omega, by omega⟩).1]; exact hI k)
      · exact hh
      · by_cases e : j = i
        · subst e
          exact ⟨by rw [wR_stR, if_pos ⟨rfl, rfl⟩], hCv.gq (P := fun a => a ≠ s + 1) (Gq.stR (fun ha => ha rfl)) (by omega)⟩
        · have hj' := hC j (by omega)
          refine ⟨?_, hj'.2.gq hG3 ⟨by omega, by omega⟩⟩
          rw [wR_stR, if_neg (fun q => e (by omega)), (hGu.2 (s + 1) (by omega)).2]
          exact hj'.1
  refine i_X4_initB ?_
  refine G_aload_n dX4_init_0 rfl ?_
  refine G_obj dX4_init_1 tx_177 tb_60 tb_61 ⟨_, s0⟩ (by decide) ?_
  refine G_aload_n dX4_init_4 rfl ?_
  refine G_const dX4_init_5 ?_
  refine G_iload_n dX4_init_6 rfl ?_
  refine G_mmax dX4_init_7 tx_178 tb_179 tb_44 tb_180 (by decide) (by decide) ⟨Nat.le_of_ble_eq_true rfl, Nat.le_of_ble_eq_true rfl⟩ ⟨Nat.le_of_ble_eq_true rfl, Nat.le_of_ble_eq_true rfl⟩ ?_
  refine G_newobj (n := 2) dX4_init_10 tx_181 (by rw [hc]; exact h1) (by decide) ⟨Nat.le_of_ble_eq_true rfl, Nat.le_of_ble_eq_true rfl⟩ ?_
  refine G_putR (ty := (.array (.object "StretchedCarpet$Carpet"))) dX4_init_13 fl_RX4_15 (sh_nw s0) rfl (fun _ => ⟨rfl, _, _, rfl⟩) (by decide +kernel) (fun _ => rfl) (fun _ => rfl) ?_
  refine G_const dX4_init_16 ?_
  refine G_istore_n dX4_init_17 (by decide) rfl ?_
  exact key 2 0 _ _ _ rfl rfl rfl (by show w.1 + 1 = _; omega) (by rw [wR_stR, if_pos ⟨rfl, rfl⟩, hc]) (fun j hj => by omega) ((Gq.nw (by intro a ha; omega)).trans (Gq.stR (fun ha => by omega))) (fun k => by show wI (nwW w) s k = _; rw [wI_nw, if_neg (by omega)])
end
