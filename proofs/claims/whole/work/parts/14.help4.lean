section
variable {Γ : Gm} {w : Wd}
/-- the three cells of a carpet -/
def Pc3 (c : Nat) : Nat → Prop := fun a => c ≤ a ∧ a ≤ c + 2
theorem ne_of_sh {w : Wd} {a b : Nat} {x y : Sh} (ha : sh w a = some x) (hb : sh w b = some y) (h : x ≠ y) : a ≠ b := fun e => h (by rw [e, hb] at ha; exact (Option.some.inj ha).symm)
theorem wI_st_ne {w : Wd} {r a : Nat} {k i v : Int} (h : a ≠ r) : wI (stI w r k v) a i = wI w a i := by rw [wI_stI, if_neg (fun q => h q.1)]
theorem kick_ok {ρ : Rm} {κ : Kp} {i f : Int} (okr : okR ρ) (ok : okK ρ κ) (hi : 0 ≤ i ∧ i < 4) (hf : 0 ≤ f ∧ f ≤ 20) : okK ρ (kick ρ κ i f) := by
  obtain ⟨a1, a2, a3, a4, a5, a6, a7⟩ := id ok
  have ht := tby_r okr ok hi hf
  have o5 := okr.2.2.2.2.2.1
  have b1 := bit01 _ (r16 a5) _ (r4 hi)
  have b2 := bit01 _ (r16 a6) _ (r4 hi)
  unfold kick
  split
  · rename_i hq
    refine ⟨a1, a2, a3, fun j hj0 hj => ?_, b1.2.1, a6, a7⟩
    have b3 := b1.2.2.2 j (r4 ⟨hj0, hj⟩)
    have a4j := a4 j hj0 hj
    show 0 ≤ upI (kT κ) i (tby ρ κ i f) j ∧ upI (kT κ) i (tby ρ κ i f) j ≤ 30 ∧ (bit (sbit (kH κ) i) j = 0 → upI (kT κ) i (tby ρ κ i f) j = 0)
    rw [b3.1]
    unfold upI
    by_cases e : j = i
    · rw [if_pos e, if_pos e]; omega
    · rw [if_neg e, if_neg e]; exact a4j
  · exact ⟨a1, a2, a3, a4, a5, b2.2.1, a7⟩
theorem go_ok {ρ : Rm} {κ : Kp} {i : Int} (ok : okK ρ κ) (hi : 0 ≤ i ∧ i < 4) : okK ρ (goK κ i) := by
  obtain ⟨a1, a2, a3, a4, a5, a6, a7⟩ := id ok
  have b1 := bit01 _ (r16 a5) _ (r4 hi)
  refine ⟨a1, a2, a3, fun j hj0 hj => ?_, b1.2.2.1, a6, a7⟩
  have b3 := b1.2.2.2 j (r4 ⟨hj0, hj⟩)
  have a4j := a4 j hj0 hj
  show 0 ≤ upI (kT κ) i 0 j ∧ upI (kT κ) i 0 j ≤ 30 ∧ (bit (cbit (kH κ) i) j = 0 → upI (kT κ) i 0 j = 0)
  rw [b3.2]
  unfold upI
  by_cases e : j = i
  · rw [if_pos e, if_pos e]; omega
  · rw [if_neg e, if_neg e]; exact a4j
theorem mon_ok {ρ : Rm} {κ : Kp} (okr : okR ρ) (ok : okK ρ κ) (hm : kM κ < 5000) : okK ρ (monK ρ κ) := by
  obtain ⟨a1, a2, a3, a4, a5, a6, a7⟩ := id ok
  have hl := lss_r okr (m := kM κ) a7.1
  refine ⟨a1, a2, a3, fun j hj0 hj => ?_, a5, a6, ?_⟩
  · have a4j := a4 j hj0 hj
    show 0 ≤ max 0 (kT κ j - lss ρ (kM κ)) ∧ max 0 (kT κ j - lss ρ (kM κ)) ≤ 30 ∧ (bit (kH κ) j = 0 → max 0 (kT κ j - lss ρ (kM κ)) = 0)
    refine ⟨by omega, by omega, fun q => ?_⟩
    have := a4j.2.2 q
    omega
  · show 0 ≤ kM κ + 1 ∧ kM κ + 1 ≤ 5000
    omega
theorem psum_up {f : Int → Int} {n : Nat} {b : Int} (k : Nat) (h : k ≤ n) : psum (upI f n b) k = psum f k := psum_congr k (fun j hj => by show (if (j : Int) = (n : Int) then b else f j) = f j; rw [if_neg (by omega)])
theorem lenK_up {ρ : Rm} {κ : Kp} {b : Int} {k : Nat} (h : k < kC κ) : lenK ρ (cutK κ b) k = lenK ρ κ k := by
  unfold lenK
  show lenF ρ (psum (upI (kB κ) (kC κ) b) _) (upI (kB κ) (kC κ) b k) = _
  rw [psum_up _ (by omega)]
  show lenF ρ _ (if (k : Int) = (kC κ : Int) then b else kB κ k) = _
  rw [if_neg (by omega)]
theorem cut_nums {ρ : Rm} {κ : Kp} {b : Int} : covK (cutK κ b) = covK κ + b ∧ rollK ρ (cutK κ b) = rollK ρ κ - lenF ρ (covK κ) b ∧ lenK ρ (cutK κ b) (kC κ) = lenF ρ (covK κ) b := by
  have e0 : upI (kB κ) (kC κ) b (kC κ) = b := if_pos rfl
  have e1 : covK (cutK κ b) = covK κ + b := by
    show psum (upI (kB κ) (kC κ) b) (kC κ) + upI (kB κ) (kC κ) b (kC κ) = _
    rw [psum_up _ (Nat.le_refl _), e0]
    rfl
  have e2 : lenK ρ (cutK κ b) (kC κ) = lenF ρ (covK κ) b := by
    unfold lenK
    show lenF ρ (psum (upI (kB κ) (kC κ) b) _) (upI (kB κ) (kC κ) b (kC κ)) = _
    rw [psum_up _ (by omega), e0, Int.toNat_natCast]
    rfl
  refine ⟨e1, ?_, e2⟩
  show rS ρ 3 - (psum (lenK ρ (cutK κ b)) (kC κ) + lenK ρ (cutK κ b) (kC κ)) = _
  rw [e2, psum_congr (g := lenK ρ κ) (kC κ) (fun k hk => lenK_up hk)]
  unfold rollK
  omega
theorem cut_ok {ρ : Rm} {κ : Kp} {b : Int} (ok : okK ρ κ) (hb : 1 ≤ b) (h : cutOk ρ κ b) : okK ρ (cutK κ b) := by
  obtain ⟨a1, a2, a3, a4, a5, a6, a7⟩ := id ok
  have hn := cut_nums (ρ := ρ) (κ := κ) (b := b)
  refine ⟨fun k hk0 hk => ?_, by rw [hn.1]; exact h.2.1, by rw [hn.2.1]; have := h.2.2; omega, a4, a5, a6, a7⟩
  show 1 ≤ (if k = (kC κ : Int) then b else kB κ k) ∧ (if k = (kC κ : Int) then b else kB κ k) ≤ rS ρ 2
  by_cases e : k = (kC κ : Int)
  · rw [if_pos e]; exact ⟨hb, h.1⟩
  · rw [if_neg e]
    have hk' : k < ((kC κ + 1 : Nat) : Int) := hk
    exact a1 k hk0 (by omega)
theorem sp_hookOn {c r : Nat} {ρ : Rm} {κ : Kp} {i f : Int} (hC : CarC w c ρ κ) (hR : RoomC w r ρ) (okr : okR ρ) (ok : okK ρ κ) (hi : 0 ≤ i ∧ i < 4) (hf : 0 ≤ f ∧ f ≤ 20) : SpI Γ m_X0_hookOn [vR c, vR r, vI i, vI f] w (fun z u => z = (if tby ρ κ i f ≤ rS ρ 5 then tby ρ κ i f else 0) ∧ CarC u c ρ (kick ρ κ i f) ∧ Fr (Pc3 c) w u) := by
  obtain ⟨⟨s0, s1, s2, t0, t1⟩, e2, e3, e4, e5, e6, e7, eB, eT⟩ := id hC
  have sr := hR.1.1
  have e10 := hR.2.1 5 (by omega) (by omega)
  rw [show (5 : Int) + 5 = 10 by rfl] at e10
  have o5 := okr.2.2.2.2.2.1
  have ht := tby_r okr ok hi hf
  refine i_X0_hookOn (k_X0_hookOn_0 (sp_tby hC hR okr ok hi hf) (fun q => ?_) (fun q => ?_))
  · refine k_X0_hookOn_32 (q1 := c + 2) (sp_put (n := 4) s2 (by omega) (by omega)) (fun u hu => ?_)
    subst hu
    refine k_X0_hookOn_54 (⟨_, rfl, ?_, ?_, (Fr.st (P := Pc3 c) ⟨by omega, by omega⟩).trans (Fr.st (P := Pc3 c) ⟨by omega, by omega⟩)⟩)
    · rw [if_pos (by omega)]
    · unfold kick
      rw [if_pos (by omega)]
      refine ⟨⟨s0, s1, s2, t0, t1⟩, ?_, ?_, ?_, ?_, ?_, ?_, fun k hk0 hk => ?_, fun j hj0 hj => ?_⟩
      · rw [wI_st_ne (by omega), wI_skip (by decide)]; exact e2
      · rw [wI_st_ne (by omega), wI_skip (by decide)]; exact e3
      · rw [wI_st_ne (by omega), wI_skip (by decide)]; exact e4
      · rw [wI_st_ne (by omega), wI_hit, e5]; rfl
      · rw [wI_st_ne (by omega), wI_skip (by decide)]; exact e6
      · rw [wI_st_ne (by omega), wI_skip (by decide)]; exact e7
      · rw [wI_st_ne (by omega), wI_st_ne (by omega)]; exact eB k hk0 hk
      · show _ = (if j = i then tby ρ κ i f else kT κ j)
        by_cases e : j = i
        · subst e
          rw [wI_hit, if_pos rfl]
        · rw [wI_skip e, wI_st_ne (by omega), if_neg e]; exact eT j hj0 hj
  · refine k_X0_hookOn_18 (⟨_, rfl, ?_, ?_, Fr.st (P := Pc3 c) ⟨by omega, by omega⟩⟩)
    · rw [if_neg (by omega)]
    · unfold kick
      rw [if_neg (by omega)]
      refine ⟨⟨s0, s1, s2, t0, t1⟩, ?_, ?_, ?_, ?_, ?_, ?_, fun k hk0 hk => ?_, fun j hj0 hj => ?_⟩
      · rw [wI_skip (by decide)]; exact e2
      · rw [wI_skip (by decide)]; exact e3
      · rw [wI_skip (by decide)]; exact e4
      · rw [wI_skip (by decide)]; exact e5
      · rw [wI_hit, e6]; rfl
      · rw [wI_skip (by decide)]; exact e7
      · rw [wI_st_ne (by omega)]; exact eB k hk0 hk
      · rw [wI_st_ne (by omega)]; exact eT j hj0 hj
theorem sp_unhook {c : Nat} {ρ : Rm} {κ : Kp} {i : Int} (hC : CarC w c ρ κ) (hi : 0 ≤ i ∧ i < 4) : SpI Γ m_X0_unhook [vR c, vI i] w (fun z u => z = kT κ i ∧ CarC u c ρ (goK κ i) ∧ Fr (Pc3 c) w u) := by
  obtain ⟨⟨s0, s1, s2, t0, t1⟩, e2, e3, e4, e5, e6, e7, eB, eT⟩ := id hC
  refine i_X0_unhook (k_X0_unhook_0 (q2 := c + 2) (sp_tight hC hi) (sp_put (n := 4) s2 (by omega) (by omega)) (fun u hu => ?_))
  subst hu
  refine k_X0_unhook_29 (⟨_, rfl, rfl, ?_, (Fr.st (P := Pc3 c) ⟨by omega, by omega⟩).trans (Fr.st (P := Pc3 c) ⟨by omega, by omega⟩)⟩)
  refine ⟨⟨s0, s1, s2, t0, t1⟩, ?_, ?_, ?_, ?_, ?_, ?_, fun k hk0 hk => ?_, fun j hj0 hj => ?_⟩
  · rw [wI_st_ne (by omega), wI_skip (by decide)]; exact e2
  · rw [wI_st_ne (by omega), wI_skip (by decide)]; exact e3
  · rw [wI_st_ne (by omega), wI_skip (by decide)]; exact e4
  · rw [wI_st_ne (by omega), wI_hit, e5]; rfl
  · rw [wI_st_ne (by omega), wI_skip (by decide)]; exact e6
  · rw [wI_st_ne (by omega), wI_skip (by decide)]; exact e7
  · rw [wI_st_ne (by omega), wI_st_ne (by omega)]; exact eB k hk0 hk
  · show _ = (if j = i then 0 else kT κ j)
    by_cases e : j = i
    · subst e
      rw [wI_hit, if_pos rfl]
    · rw [wI_skip e, wI_st_ne (by omega), if_neg e]; exact eT j hj0 hj
theorem passMonth_loop {Q : Option Value → Wd → Prop} {c r : Nat} {ρ : Rm} {κ : Kp} {w0 : Wd} (okr : okR ρ) (ok : okK ρ κ) (hQ : ∀ u, CarC u c ρ (monK ρ κ) → Fr (Pc3 c) w0 u → Q none u) : ∀ (n k : Nat) (w : Wd), k + n = 4 → CarC w c ρ (kC κ, kB κ, (fun i => if i < k then max 0 (kT κ i - lss ρ (kM κ)) else kT κ i), kH κ, kN κ, kM κ) → Fr (Pc3 c) w0 w → G Γ m_X0_passMonth Q 0 0 11 [some (vR c), some (vR r), some (vI (lss ρ (kM κ))), some (vI k)] [] w := by
  have hl := lss_r okr (m := kM κ) ok.2.2.2.2.2.2.1
  intro n
  induction n with
  | zero =>
    intro k w hk hC hF
    obtain ⟨⟨s0, s1, s2, t0, t1⟩, e2, e3, e4, e5, e6, e7, eB, eT⟩ := id hC
    refine k_X0_passMonth_11 (fun _ => k_X0_passMonth_41 (hQ _ ?_ (hF.trans (Fr.st (P := Pc3 c) ⟨by omega, by omega⟩)))) (fun q => absurd q (by omega))
    refine ⟨⟨s0, s1, s2, t0, t1⟩, ?_, ?_, ?_, ?_, ?_, ?_, fun k hk0 hk => ?_, fun j hj0 hj => ?_⟩
    · rw [wI_skip (by decide)]; exact e2
    · rw [wI_skip (by decide)]; exact e3
    · rw [wI_skip (by decide)]; exact e4
    · rw [wI_skip (by decide)]; exact e5
    · rw [wI_skip (by decide)]; exact e6
    · rw [wI_hit, e7]; rfl
    · rw [wI_st_ne (by omega)]; exact eB k hk0 hk
    · rw [wI_st_ne (by omega), eT j hj0 hj]
      show (if j < (k : Int) then _ else _) = _
      rw [if_pos (by omega)]
      rfl
  | succ n ih =>
    intro k w hk hC hF
    obtain ⟨⟨s0, s1, s2, t0, t1⟩, e2, e3, e4, e5, e6, e7, eB, eT⟩ := id hC
    have ht := ok.2.2.2.1 k (by omega) (by omega)
    refine k_X0_passMonth_11 (fun q => absurd q (by omega)) (fun _ => k_X0_passMonth_16 (z2 := kT κ k) (q1 := c + 2) ?_ (sp_put (n := 4) s2 (by omega) (by omega)) (fun u hu => k_X0_passMonth_35 ?_))
    · refine (sp_tight hC (by omega)).cast ?_
      show (if (k : Int) < (k : Int) then _ else _) = _
      rw [if_neg (by omega)]
    · subst hu
      have h := ih (k + 1) (stI w (c + 2) k (max 0 (kT κ k - lss ρ (kM κ)))) (by omega) ⟨⟨s0, s1, s2, t0, t1⟩, by rw [wI_st_ne (by omega)]; exact e2, by rw [wI_st_ne (by omega)]; exact e3, by rw [wI_st_ne (by omega)]; exact e4, by rw [wI_st_ne (by omega)]; exact e5, by rw [wI_st_ne (by omega)]; exact e6, by rw [wI_st_ne (by omega)]; exact e7, fun j hj0 hj => by rw [wI_st_ne (by omega)]; exact eB j hj0 hj, fun j hj0 hj => by
        show _ = (if j < ((k + 1 : Nat) : Int) then max 0 (kT κ j - lss ρ (kM κ)) else kT κ j)
        by_cases e : j = k
        · subst e
          rw [wI_hit, if_pos (by omega)]
        · rw [wI_skip e, eT j hj0 hj]
          show (if j < (k : Int) then _ else _) = _
          by_cases e1 : j < (k : Int)
          · rw [if_pos e1, if_pos (by omega)]
          · rw [if_neg e1, if_neg (by omega)]⟩ (hF.trans (Fr.st (P := Pc3 c) ⟨by omega, by omega⟩))
      rw [Int.natCast_add] at h
      exact h
theorem sp_passMonth {c r : Nat} {ρ : Rm} {κ : Kp} (hC : CarC w c ρ κ) (hR : RoomC w r ρ) (okr : okR ρ) (ok : okK ρ κ) : SpV Γ m_X0_passMonth [vR c, vR r] w (fun u => CarC u c ρ (monK ρ κ) ∧ Fr (Pc3 c) w u) := by
  have s0 := hC.1.1
  have sr := hR.1.1
  have e7 := hC.2.2.2.2.2.2.1
  have hm := ok.2.2.2.2.2.2
  refine i_X0_passMonth (k_X0_passMonth_0 (z1 := lss ρ (kM κ)) ?_ (passMonth_loop okr ok (fun u h1 h2 => ⟨rfl, h1, h2⟩) 4 0 w rfl ?_ Fr.rfl))
  · rw [e7]; exact sp_lss hR okr (by omega)
  · obtain ⟨h0, h1, h2, h3, h4, h5, h6, h7, h8⟩ := hC
    refine ⟨h0, h1, h2, h3, h4, h5, h6, h7, fun j hj0 hj => ?_⟩
    rw [h8 j hj0 hj]
    show _ = (if j < ((0 : Nat) : Int) then _ else kT κ j)
    rw [if_neg (by omega)]
theorem sp_cutFor {c r : Nat} {ρ : Rm} {κ : Kp} {b : Int} (hC : CarC w c ρ κ) (hR : RoomC w r ρ) (okr : okR ρ) (ok : okK ρ κ) (hb : 1 ≤ b ∧ b ≤ 6) (h : cutOk ρ κ b) : SpI Γ m_X0_cutFor [vR c, vR r, vI b] w (fun z u => z = lenF ρ (covK κ) b ∧ CarC u c ρ (cutK κ b) ∧ Fr (Pc3 c) w u) := by
  obtain ⟨⟨s0, s1, s2, t0, t1⟩, e2, e3, e4, e5, e6, e7, eB, eT⟩ := id hC
  have sr := hR.1.1
  have hc := ok.cnt okr
  have hm := okr.1
  have h2 := h.2.1
  have hn := cut_nums (ρ := ρ) (κ := κ) (b := b)
  refine i_X0_cutFor (k_X0_cutFor_0 (z1 := lenF ρ (covK κ) b) (q2 := c + 1) ?_ (sp_put (n := 12) s1 (by omega) (by omega)) (fun u hu => ?_))
  · rw [e3]; exact sp_lengthFor hR okr (by omega) (by omega) h2
  · subst hu
    refine k_X0_cutFor_22 (⟨_, rfl, rfl, ?_, (((Fr.st (P := Pc3 c) ⟨by omega, by omega⟩).trans (Fr.st (P := Pc3 c) ⟨by omega, by omega⟩)).trans (Fr.st (P := Pc3 c) ⟨by omega, by omega⟩)).trans (Fr.st (P := Pc3 c) ⟨by omega, by omega⟩)⟩)
    have a2 : wI (stI w (c + 1) (wI w c 2) b) c 2 = wI w c 2 := wI_st_ne (by omega)
    have a3 : wI (stI w (c + 1) (wI w c 2) b) c 3 = wI w c 3 := wI_st_ne (by omega)
    have a4 : wI (stI w (c + 1) (wI w c 2) b) c 4 = wI w c 4 := wI_st_ne (by omega)
    rw [a2, a3, a4]
    refine ⟨⟨s0, s1, s2, t0, t1⟩, ?_, ?_, ?_, ?_, ?_, ?_, fun k hk0 hk => ?_, fun j hj0 hj => ?_⟩
    · rw [wI_skip (by decide), wI_skip (by decide), wI_hit, e2]; rfl
    · rw [wI_skip (by decide), wI_hit, e3, hn.1]
    · rw [wI_hit, e4, hn.2.1]
    · rw [wI_skip (by decide), wI_skip (by decide), wI_skip (by decide), wI_st_ne (by omega)]; exact e5
    · rw [wI_skip (by decide), wI_skip (by decide), wI_skip (by decide), wI_st_ne (by omega)]; exact e6
    · rw [wI_skip (by decide), wI_skip (by decide), wI_skip (by decide), wI_st_ne (by omega)]; exact e7
    · rw [wI_st_ne (by omega), wI_st_ne (by omega), wI_st_ne (by omega)]
      show _ = (if k = (kC κ : Int) then b else kB κ k)
      have hk' : k < ((kC κ + 1 : Nat) : Int) := hk
      by_cases e : k = (kC κ : Int)
      · rw [if_pos e, e, e2, wI_hit]
      · rw [if_neg e, e2, wI_skip e]; exact eB k hk0 (by omega)
    · rw [wI_st_ne (by omega), wI_st_ne (by omega), wI_st_ne (by omega), wI_st_ne (by omega)]; exact eT j hj0 hj
theorem copy_loop {Q : Option Value → Wd → Prop} {p q n : Nat} {w0 : Wd} (hn : n < 1000) (hpq : p ≠ q) (hp : sh w0 p = some (.inl (0, n))) (hq : sh w0 q = some (.inl (0, n))) (hQ : ∀ u, Fr (fun a => a = q) w0 u → (∀ k : Int, 0 ≤ k → k < n → wI u q k = wI w0 p k) → Q none u) : ∀ (m k : Nat) (w : Wd), k + m = n → Fr (fun a => a = q) w0 w → (∀ j : Int, 0 ≤ j → j < k → wI w q j = wI w0 p j) → G Γ m_X6_copy Q 0 0 2 [some (vR p), some (vR q), some (vI k)] [] w := by
  intro m
  induction m with
  | zero =>
    intro k w hk hF hv
    have h1 : sh w p = some (.inl (0, n)) := by rw [hF.sh]; exact hp
    exact k_X6_copy_2 (n1 := n) (fun _ => k_X6_copy_26 (hQ w hF (fun j a b => hv j a (by omega)))) (fun q => absurd q (by omega))
  | succ m ih =>
    intro k w hk hF hv
    have h1 : sh w p = some (.inl (0, n)) := by rw [hF.sh]; exact hp
    have h2 : sh w q = some (.inl (0, n)) := by rw [hF.sh]; exact hq
    refine k_X6_copy_2 (n1 := n) (fun q => absurd q (by omega)) (fun _ => k_X6_copy_8 (n1 := n) (fun q => absurd q (by omega)) (fun _ => k_X6_copy_14 (n1 := n) (n2 := n) ?_))
    have h := ih (k + 1) (stI w q k (wI w p k)) (by omega) (hF.trans (Fr.st rfl)) (fun j hj0 hj => by
      by_cases e : j = k
      · subst e
        rw [wI_hit, hF.2.1 p hpq]
      · rw [wI_skip e]; exact hv j hj0 (by omega))
    rw [Int.natCast_add] at h
    exact h
theorem sp_copy {p q n : Nat} (hn : n < 1000) (hpq : p ≠ q) (hp : sh w p = some (.inl (0, n))) (hq : sh w q = some (.inl (0, n))) : SpV Γ m_X6_copy [vR p, vR q] w (fun u => Fr (fun a => a = q) w u ∧ ∀ k : Int, 0 ≤ k → k < n → wI u q k = wI w p k) :=
  i_X6_copy (k_X6_copy_0 (copy_loop hn hpq hp hq (fun u h1 h2 => ⟨rfl, h1, h2⟩) n 0 w (by omega) Fr.rfl (fun j a b => by omega)))
theorem sp_copyFrom {c d : Nat} {ρ : Rm} {κ : Kp} (hS : CarS w c) (hC : CarC w d ρ κ) (okr : okR ρ) (ok : okK ρ κ) (hd : c + 2 < d ∨ d + 2 < c) : SpV Γ m_X0_copyFrom [vR c, vR d] w (fun u => CarC u c ρ κ ∧ Fr (Pc3 c) w u) := by
  obtain ⟨⟨s0, s1, s2, t0, t1⟩, e2, e3, e4, e5, e6, e7, eB, eT⟩ := id hC
  obtain ⟨x0, x1, x2, y0, y1⟩ := id hS
  have hc := ok.cnt okr
  refine i_X0_copyFrom (k_X0_copyFrom_0 (q1 := d + 1) (q2 := c + 1) (sp_copy (n := 12) (by omega) (by omega) s1 x1) (fun u hu => ?_))
  obtain ⟨hF, hv⟩ := hu
  have hF1 : Fr (Pc3 c) w u := hF.mono (fun a ha => by subst ha; exact ⟨by omega, by omega⟩)
  have s0u := hF.sh d
  have s2u := hF.sh (d + 2)
  have x0u := hF.sh c
  have x2u := hF.sh (c + 2)
  rw [s0] at s0u; rw [s2] at s2u; rw [x0] at x0u; rw [x2] at x2u
  have t1u := hF.2.2 d 1
  have y1u := hF.2.2 c 1
  rw [t1] at t1u; rw [y1] at y1u
  refine k_X0_copyFrom_11 (q1 := d + 2) (q2 := c + 2) (sp_copy (n := 4) (by omega) (by omega) s2u x2u) (fun v hv2 => ?_)
  obtain ⟨hG, hv3⟩ := hv2
  have hF2 : Fr (Pc3 c) w v := hF1.trans (hG.mono (fun a ha => by subst ha; exact ⟨by omega, by omega⟩))
  have s0v := hF2.sh d
  have x0v := hF2.sh c
  rw [s0] at s0v; rw [x0] at x0v
  refine k_X0_copyFrom_22 (⟨rfl, ?_, hF2.trans ((((((Fr.st (P := Pc3 c) ⟨by omega, by omega⟩).trans (Fr.st (P := Pc3 c) ⟨by omega, by omega⟩)).trans (Fr.st (P := Pc3 c) ⟨by omega, by omega⟩)).trans (Fr.st (P := Pc3 c) ⟨by omega, by omega⟩)).trans (Fr.st (P := Pc3 c) ⟨by omega, by omega⟩)).trans (Fr.st (P := Pc3 c) ⟨by omega, by omega⟩))⟩)
  have hdd : ∀ k, wI v d k = wI w d k := hF2.2.1 d (fun q => by unfold Pc3 at q; omega)
  simp only [hdd]
  refine ⟨(by have q : CarS v c := hS.fr hF2; exact q), ?_, ?_, ?_, ?_, ?_, ?_, fun k hk0 hk => ?_, fun j hj0 hj => ?_⟩
  · rw [wI_skip (by decide), wI_skip (by decide), wI_skip (by decide), wI_skip (by decide), wI_skip (by decide), wI_hit]; exact e2
  · rw [wI_skip (by decide), wI_skip (by decide), wI_skip (by decide), wI_skip (by decide), wI_hit]; exact e3
  · rw [wI_skip (by decide), wI_skip (by decide), wI_skip (by decide), wI_hit]; exact e4
  · rw [wI_skip (by decide), wI_skip (by decide), wI_hit]; exact e5
  · rw [wI_skip (by decide), wI_hit]; exact e6
  · rw [wI_hit]; exact e7
  · iterate 6 rw [wI_st_ne (by omega)]
    rw [hG.2.1 (c + 1) (by show ¬ (c + 1 = c + 2); omega), hv k hk0 (by omega)]
    exact eB k hk0 hk
  · iterate 6 rw [wI_st_ne (by omega)]
    rw [hv3 j hj0 (by omega), hF.2.1 (d + 2) (by show ¬ (d + 2 = c + 1); omega)]
    exact eT j hj0 hj
theorem sp_carClear {c : Nat} {ρ : Rm} (hS : CarS w c) (okr : okR ρ) : SpV Γ m_X0_clear [vR c, vI (rS ρ 3)] w (fun u => CarC u c ρ nilK ∧ Fr (Pc3 c) w u) := by
  have key : ∀ (n k : Nat) (u : Wd), k + n = 4 → Fr (Pc3 c) w u → (∀ j : Int, 0 ≤ j → j < k → wI u (c + 2) j = 0) → G Γ m_X0_clear (fun v u => v = none ∧ CarC u c ρ nilK ∧ Fr (Pc3 c) w u) 0 0 2 [some (vR c), some (vI (rS ρ 3)), some (vI k)] [] u := by
    intro n
    induction n with
    | zero =>
      intro k u hk hF hv
      have x := hS.fr hF
      obtain ⟨x0, x1, x2, y0, y1⟩ := id x
      refine k_X0_clear_2 (fun _ => k_X0_clear_22 ⟨rfl, ⟨x, ?_, ?_, ?_, ?_, ?_, ?_, fun k hk0 hk => ?_, fun j hj0 hj => ?_⟩, hF.trans ((((((Fr.st (P := Pc3 c) ⟨by omega, by omega⟩).trans (Fr.st (P := Pc3 c) ⟨by omega, by omega⟩)).trans (Fr.st (P := Pc3 c) ⟨by omega, by omega⟩)).trans (Fr.st (P := Pc3 c) ⟨by omega, by omega⟩)).trans (Fr.st (P := Pc3 c) ⟨by omega, by omega⟩)).trans (Fr.st (P := Pc3 c) ⟨by omega, by omega⟩))⟩) (fun q => absurd q (by omega))
      · rw [wI_skip (by decide), wI_skip (by decide), wI_skip (by decide), wI_skip (by decide), wI_skip (by decide), wI_hit]; rfl
      · rw [wI_skip (by decide), wI_skip (by decide), wI_skip (by decide), wI_skip (by decide), wI_hit]; rfl
      · rw [wI_skip (by decide), wI_skip (by decide), wI_skip (by decide), wI_hit]; show _ = rS ρ 3 - 0; omega
      · rw [wI_skip (by decide), wI_skip (by decide), wI_hit]; rfl
      · rw [wI_skip (by decide), wI_hit]; rfl
      · rw [wI_hit]; rfl
      · have hk2 : k < ((0 : Nat) : Int) := hk
        omega
      · iterate 6 rw [wI_st_ne (by omega)]
        exact hv j hj0 (by omega)
    | succ n ih =>
      intro k u hk hF hv
      obtain ⟨x0, x1, x2, y0, y1⟩ := hS.fr hF
      refine k_X0_clear_2 (fun q => absurd q (by omega)) (fun _ => k_X0_clear_7 (q1 := c + 2) (sp_put (n := 4) x2 (by omega) (by omega)) (fun v hv2 => k_X0_clear_16 ?_))
      subst hv2
      have h := ih (k + 1) (stI u (c + 2) k 0) (by omega) (hF.trans (Fr.st (P := Pc3 c) ⟨by omega, by omega⟩)) (fun j hj0 hj => by
        by_cases e : j = k
        · subst e; rw [wI_hit]
        · rw [wI_skip e]; exact hv j hj0 (by omega))
      rw [Int.natCast_add] at h
      exact h
  exact i_X0_clear (k_X0_clear_0 (key 4 0 w rfl Fr.rfl (fun j a b => by omega)))
theorem ok_move {ρ : Rm} {κ : Kp} (h : okK ρ κ) (hm : kM κ ≤ 999) : kM κ < 5000 := by omega
theorem step_r {d : Int} (hd : 0 ≤ d ∧ d < 32768) : (0 ≤ d.tmod 4 ∧ d.tmod 4 < 4) ∧ (0 ≤ (d.tdiv 32).tmod 16 ∧ (d.tdiv 32).tmod 16 < 16) ∧ (0 ≤ (d.tdiv 4).tmod 5 ∧ (d.tdiv 4).tmod 5 < 5) ∧ (0 ≤ (d.tdiv 512).tmod 3 ∧ (d.tdiv 512).tmod 3 < 3) ∧ (0 ≤ d.tdiv 32 ∧ d.tdiv 32 ≤ 32768) ∧ (0 ≤ d.tdiv 4 ∧ d.tdiv 4 ≤ 32768) ∧ (0 ≤ d.tdiv 512 ∧ d.tdiv 512 ≤ 32768) := by
  have e1 : d.tdiv 32 = d / 32 := Int.tdiv_eq_ediv_of_nonneg hd.1
  have e2 : d.tdiv 4 = d / 4 := Int.tdiv_eq_ediv_of_nonneg hd.1
  have e3 : d.tdiv 512 = d / 512 := Int.tdiv_eq_ediv_of_nonneg hd.1
  have h1 : 0 ≤ d / 32 := by omega
  have h2 : 0 ≤ d / 4 := by omega
  have h3 : 0 ≤ d / 512 := by omega
  rw [e1, e2, e3]
  exact ⟨⟨Int.tmod_nonneg _ hd.1, Int.tmod_lt_of_pos _ (by omega)⟩, ⟨Int.tmod_nonneg _ h1, Int.tmod_lt_of_pos _ (by omega)⟩, ⟨Int.tmod_nonneg _ h2, Int.tmod_lt_of_pos _ (by omega)⟩, ⟨Int.tmod_nonneg _ h3, Int.tmod_lt_of_pos _ (by omega)⟩, ⟨h1, by omega⟩, ⟨h2, by omega⟩, ⟨h3, by omega⟩⟩
theorem stepA_ok {ρ : Rm} {κ : Kp} {d : Int} (okr : okR ρ) (ok : okK ρ κ) (hd : 0 ≤ d ∧ d < 32768) : okK ρ (stepA ρ κ d) ∧ kM (stepA ρ κ d) = kM κ := by
  have hs := step_r hd
  unfold stepA
  split
  · split
    · refine ⟨kick_ok okr ok hs.1 (by omega), ?_⟩
      unfold kick
      split <;> rfl
    · exact ⟨ok, rfl⟩
  · split
    · exact ⟨go_ok ok hs.1, rfl⟩
    · exact ⟨ok, rfl⟩
theorem stepK_ok {ρ : Rm} {κ : Kp} {d : Int} (okr : okR ρ) (ok : okK ρ κ) (hd : 0 ≤ d ∧ d < 32768) (hm : kM κ < 5000) : okK ρ (stepK ρ κ d) ∧ kM (stepK ρ κ d) ≤ kM κ + 1 := by
  have h := stepA_ok okr ok hd
  unfold stepK
  split
  · exact ⟨mon_ok okr h.1 (by omega), by show kM (stepA ρ κ d) + 1 ≤ _; omega⟩
  · exact ⟨h.1, by omega⟩
theorem sp_takeStep {c r : Nat} {ρ : Rm} {κ : Kp} {d : Int} (hC : CarC w c ρ κ) (hR : RoomC w r ρ) (okr : okR ρ) (ok : okK ρ κ) (hd : 0 ≤ d ∧ d < 32768) (hm : kM κ < 5000) (hrc : r + 5 < c ∨ c + 2 < r) : SpV Γ m_X0_takeStep [vR c, vR r, vI d] w (fun u => CarC u c ρ (stepK ρ κ d) ∧ Fr (Pc3 c) w u) := by
  have hs := step_r hd
  have s0 := hC.1.1
  have b1 := bit_r ok.2.2.2.2.1 hs.1
  have b2 := bit_r ok.2.2.2.2.2.1 hs.1
  have hA := stepA_ok okr ok hd
  -- behind the first half
  have fin : ∀ (u : Wd), CarC u c ρ (stepA ρ κ d) → Fr (Pc3 c) w u → (((d.tdiv 512).tmod 3 ≠ 0 → G Γ m_X0_takeStep (fun v u => v = none ∧ CarC u c ρ (stepK ρ κ d) ∧ Fr (Pc3 c) w u) 0 0 66 [some (vR c), some (vR r), some (vI d), some (vI (d.tmod 4))] [] u) ∧ ((d.tdiv 512).tmod 3 = 0 → G Γ m_X0_takeStep (fun v u => v = none ∧ CarC u c ρ (stepK ρ κ d) ∧ Fr (Pc3 c) w u) 0 0 61 [some (vR c), some (vR r), some (vI d), some (vI (d.tmod 4))] [] u)) := by
    intro u hCu hF
    have su := hCu.1.1
    refine ⟨fun q => k_X0_takeStep_66 ⟨rfl, ?_, hF⟩, fun q => ?_⟩
    · unfold stepK; rw [if_neg q]; exact hCu
    · have hRu := hR.fr hF (fun a a1 a2 q => by unfold Pc3 at q; omega)
      refine k_X0_takeStep_61 (sp_passMonth hCu hRu okr hA.1) (fun v hv => k_X0_takeStep_66 ⟨rfl, ?_, hF.trans hv.2⟩)
      unfold stepK; rw [if_pos q]; exact hv.1
  refine i_X0_takeStep (k_X0_takeStep_0 (sp_isHooked hC ok hs.1) (fun q => ?_) (fun q => ?_))
  · by_cases q2 : bit (kN κ) (d.tmod 4) = 0
    · refine k_X0_takeStep_29 (sp_isFree1 hC ok hs.1 ⟨q, q2⟩) (fun q => absurd q (by decide)) (fun _ => ?_)
      refine k_X0_takeStep_37 (sp_hookOn hC hR okr ok hs.1 (by omega)) (fun z u hu => ?_)
      have e : stepA ρ κ d = kick ρ κ (d.tmod 4) ((d.tdiv 32).tmod 16) := by unfold stepA; rw [if_pos q, if_pos q2]
      have f := fin u (by rw [e]; exact hu.2.1) hu.2.2
      exact k_X0_takeStep_50 f.1 f.2
    · refine k_X0_takeStep_29 (sp_isFree0 hC ok hs.1 (fun h => q2 h.2)) (fun _ => ?_) (fun q => absurd rfl q)
      have e : stepA ρ κ d = κ := by unfold stepA; rw [if_pos q, if_neg q2]
      have f := fin w (by rw [e]; exact hC) Fr.rfl
      exact k_X0_takeStep_51 f.1 f.2
  · refine k_X0_takeStep_12 (fun q2 => ?_) (fun q2 => ?_)
    · have e : stepA ρ κ d = κ := by unfold stepA; rw [if_neg q, if_neg q2]
      have f := fin w (by rw [e]; exact hC) Fr.rfl
      exact k_X0_takeStep_51 f.1 f.2
    · refine k_X0_takeStep_20 (sp_unhook hC hs.1) (fun z u hu => ?_)
      have e : stepA ρ κ d = goK κ (d.tmod 4) := by unfold stepA; rw [if_neg q, if_pos q2]
      have f := fin u (by rw [e]; exact hu.2.1) hu.2.2
      exact k_X0_takeStep_25 f.1 f.2
theorem nil_ok {ρ : Rm} (okr : okR ρ) : okK ρ nilK := by
  have h := okr.1
  have h3 := okr.2.2.2.1
  refine ⟨fun k a b => ?_, by show (0 : Int) ≤ rS ρ 0; omega, by show 0 ≤ rS ρ 3 - 0; omega, fun i _ _ => ⟨Int.le_refl 0, by show (0 : Int) ≤ 30; decide, fun _ => rfl⟩, by decide, by decide, by decide, by decide⟩
  have b2 : k < ((0 : Nat) : Int) := b
  omega
end
