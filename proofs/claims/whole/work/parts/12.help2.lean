section
variable {Γ : Gm} {w : Wd}
/-- what a piece of code may have changed -/
def Fr (P : Nat → Prop) (w u : Wd) : Prop := u.1 = w.1 ∧ (∀ a, ¬ P a → ∀ k, wI u a k = wI w a k) ∧ ∀ a k, wR u a k = wR w a k
theorem Fr.rfl {P : Nat → Prop} {w : Wd} : Fr P w w := ⟨Eq.refl _, fun _ _ _ => Eq.refl _, fun _ _ => Eq.refl _⟩
theorem Fr.trans {P : Nat → Prop} {w u v : Wd} (h : Fr P w u) (g : Fr P u v) : Fr P w v := ⟨g.1.trans h.1, fun a ha k => (g.2.1 a ha k).trans (h.2.1 a ha k), fun a k => (g.2.2 a k).trans (h.2.2 a k)⟩
theorem Fr.mono {P R : Nat → Prop} {w u : Wd} (h : Fr P w u) (hp : ∀ a, P a → R a) : Fr R w u := ⟨h.1, fun a ha k => h.2.1 a (fun q => ha (hp a q)) k, h.2.2⟩
theorem Fr.st {P : Nat → Prop} {w : Wd} {r : Nat} {k v : Int} (h : P r) : Fr P w (stI w r k v) := ⟨Eq.refl _, fun a ha i => by rw [wI_stI, if_neg]; rintro ⟨rfl, -⟩; exact ha h, fun _ _ => Eq.refl _⟩
theorem Fr.sh {P : Nat → Prop} {w u : Wd} (h : Fr P w u) (a : Nat) : sh u a = sh w a := by show (if a < u.1 then shp[a]? else none) = if a < w.1 then shp[a]? else none; rw [h.1]
theorem RoomS.fr {P : Nat → Prop} {w u : Wd} {r : Nat} (h : RoomS w r) (g : Fr P w u) : RoomS u r := by
  unfold RoomS at h ⊢
  simp only [g.sh, g.2.2]
  exact h
theorem CarS.fr {P : Nat → Prop} {w u : Wd} {r : Nat} (h : CarS w r) (g : Fr P w u) : CarS u r := by
  unfold CarS at h ⊢
  simp only [g.sh, g.2.2]
  exact h
theorem RoomC.fr {P : Nat → Prop} {w u : Wd} {r : Nat} {ρ : Rm} (h : RoomC w r ρ) (g : Fr P w u) (hp : ∀ a, r ≤ a → a ≤ r + 5 → ¬ P a) : RoomC u r ρ := by
  obtain ⟨h0, h1, h2, h3⟩ := h
  refine ⟨h0.fr g, fun i a b => ?_, fun s a b => ?_, fun k a b => ?_⟩
  · rw [g.2.1 _ (hp _ (by omega) (by omega))]; exact h1 i a b
  · rw [g.2.1 _ (hp _ (by omega) (by omega)), g.2.1 _ (hp _ (by omega) (by omega)), g.2.1 _ (hp _ (by omega) (by omega))]; exact h2 s a b
  · rw [g.2.1 _ (hp _ (by omega) (by omega))]; exact h3 k a b
theorem CarC.fr {P : Nat → Prop} {w u : Wd} {c : Nat} {ρ : Rm} {κ : Kp} (h : CarC w c ρ κ) (g : Fr P w u) (hp : ∀ a, c ≤ a → a ≤ c + 2 → ¬ P a) : CarC u c ρ κ := by
  obtain ⟨h0, h1, h2, h3, h4, h5, h6, h7, h8⟩ := h
  have q0 := g.2.1 c (hp _ (by omega) (by omega))
  have q1 := g.2.1 (c + 1) (hp _ (by omega) (by omega))
  have q2 := g.2.1 (c + 2) (hp _ (by omega) (by omega))
  refine ⟨h0.fr g, ?_, ?_, ?_, ?_, ?_, ?_, ?_, ?_⟩ <;> simp only [q0, q1, q2] <;> assumption
theorem CarM.fr {P : Nat → Prop} {w u : Wd} {a : Nat} {o : Int} {ρ : Rm} {κ : Kp} (h : CarM w a o ρ κ) (g : Fr P w u) (hp : ¬ P a) : CarM u a o ρ κ := by
  have q0 := g.2.1 a hp
  unfold CarM at h ⊢
  simp only [q0]
  exact h
theorem mxF_r {f : Int → Int} {a : Int} {M : Int} : ∀ n : Nat, (∀ j : Nat, j < n → 0 ≤ f (a + j) ∧ f (a + j) ≤ M) → 0 ≤ M → 0 ≤ mxF f a n ∧ mxF f a n ≤ M
  | 0, _, h0 => ⟨Int.le_refl _, h0⟩
  | n + 1, h, h0 => by
    have h1 := mxF_r n (fun j hj => h j (by omega)) h0
    have h2 := h n (by omega)
    show 0 ≤ max (mxF f a n) (f (a + n)) ∧ max (mxF f a n) (f (a + n)) ≤ M
    omega
theorem okR.len {ρ : Rm} (h : okR ρ) {a b : Int} (ha : 0 ≤ a) (hb : 0 ≤ b) (hab : a + b ≤ rS ρ 0) : (0 ≤ mxF (rL ρ) a b.toNat ∧ mxF (rL ρ) a b.toNat ≤ 40) ∧ 0 ≤ lenF ρ a b ∧ lenF ρ a b ≤ 45 := by
  have h1 := mxF_r (f := rL ρ) (a := a) (M := 40) b.toNat (fun j hj => by have := (h.2.2.2.2.2.2.2.2.1 (a + j) (by omega) (by omega)).1; omega) (by omega)
  have h2 := h.2.2.2.2.1
  refine ⟨h1, ?_⟩
  unfold lenF
  omega
theorem lengthFor_loop {Ret : Option Value → Wd → Prop} {r : Nat} {ρ : Rm} {a b : Int} (hR : RoomC w r ρ) (ok : okR ρ) (ha : 0 ≤ a) (hab : a + b ≤ rS ρ 0) (kr : Ret (some (vI (lenF ρ a b))) w) : ∀ (n i : Nat), (i : Int) + n = b → G Γ m_X3_lengthFor Ret 0 0 5 [some (vR r), some (vI a), some (vI b), some (vI (mxF (rL ρ) a i)), some (vI i)] [] w := by
  obtain ⟨⟨s0, s1, s2, s3, s4, s5, t0, t1, t2, t3, t4⟩, e0, e1, e2⟩ := id hR
  have hm := ok.1
  intro n
  induction n with
  | zero =>
    intro i hi
    refine k_X3_lengthFor_5 (fun _ => ?_) (fun q => absurd q (by omega))
    refine k_X3_lengthFor_33 ?_
    have e9 := e0 4 (by omega) (by omega)
    rw [show (4 : Int) + 5 = 9 by rfl] at e9
    rw [e9]
    have : i = b.toNat := by omega
    rw [this]
    exact kr
  | succ n ih =>
    intro i hi
    have hb := ok.len (a := a) (b := i) ha (by omega) (by omega)
    rw [Int.toNat_natCast] at hb
    have hl := (ok.2.2.2.2.2.2.2.2.1 (a + i) (by omega) (by omega)).1
    have hw := (e1 (a + i) (by omega) (by omega)).1
    refine k_X3_lengthFor_5 (fun q => absurd q (by omega)) (fun _ => ?_)
    refine k_X3_lengthFor_11 (sp_at s1 (by omega) (by omega)) ?_ (h5 := by rw [hw]; omega)
    rw [hw]
    have q := ih (i + 1) (by omega)
    rw [Int.natCast_add] at q
    exact q
theorem sp_lengthFor {r : Nat} {ρ : Rm} {a b : Int} (hR : RoomC w r ρ) (ok : okR ρ) (ha : 0 ≤ a) (hb : 0 ≤ b) (hab : a + b ≤ rS ρ 0) : SpP Γ m_X3_lengthFor [vR r, vI a, vI b] w (lenF ρ a b) :=
  i_X3_lengthFor (k_X3_lengthFor_0 (lengthFor_loop hR ok ha hab (rp rfl) b.toNat 0 (by omega)))
theorem dmp_r {ρ : Rm} (ok : okR ρ) {m : Int} (hm : 0 ≤ m) : 0 ≤ dmp ρ m ∧ dmp ρ m ≤ 9 := by
  unfold dmp
  split
  · omega
  · have h1 : 0 ≤ m.tmod (rS ρ 1) := Int.tmod_nonneg _ hm
    have h2 : m.tmod (rS ρ 1) < rS ρ 1 := Int.tmod_lt_of_pos _ (by omega)
    exact ok.2.2.2.2.2.2.2.2.2 _ h1 h2
theorem sp_dampOf {r : Nat} {ρ : Rm} {m : Int} (hR : RoomC w r ρ) (ok : okR ρ) (hm : 0 ≤ m ∧ m < 100000) : SpP Γ m_X3_dampOf [vR r, vI m] w (dmp ρ m) := by
  obtain ⟨⟨s0, s1, s2, s3, s4, s5, t0, t1, t2, t3, t4⟩, e0, e1, e2⟩ := id hR
  have e6 := e0 1 (by omega) (by omega)
  rw [show (1 : Int) + 5 = 6 by rfl] at e6
  have hd := ok.2.1
  refine i_X3_dampOf (k_X3_dampOf_0 (fun q => ?_) (fun q => ?_))
  · refine k_X3_dampOf_23 (rp ?_)
    unfold dmp; rw [if_pos (by omega)]
  · have h1 : 0 ≤ m.tmod (rS ρ 1) := Int.tmod_nonneg _ hm.1
    have h2 : m.tmod (rS ρ 1) < rS ρ 1 := Int.tmod_lt_of_pos _ (by omega)
    refine k_X3_dampOf_7 (z2 := dmp ρ m) ?_ (rp rfl)
    rw [e6]
    refine (sp_at s4 (by omega) (by omega)).cast ?_
    rw [e2 _ h1 h2]
    unfold dmp; rw [if_neg (by omega)]
theorem td3 {z : Int} (h : 0 ≤ z) : z.tdiv 3 = z / 3 := Int.tdiv_eq_ediv_of_nonneg h
theorem lss_r {ρ : Rm} (ok : okR ρ) {m : Int} (hm : 0 ≤ m) : 0 ≤ lss ρ m ∧ lss ρ m ≤ 3 := by
  have h := dmp_r ok hm
  unfold lss
  rw [td3 h.1]
  omega
theorem sp_lss {r : Nat} {ρ : Rm} {m : Int} (hR : RoomC w r ρ) (ok : okR ρ) (hm : 0 ≤ m ∧ m < 100000) : SpP Γ m_X3_slackeningIn [vR r, vI m] w (lss ρ m) := by
  have h := dmp_r ok hm.1
  have s0 := hR.1.1
  exact i_X3_slackeningIn (k_X3_slackeningIn_0 (sp_dampOf hR ok hm) (rp rfl))
theorem sp_strips {r : Nat} {ρ : Rm} {s : Int} (hR : RoomC w r ρ) (ok : okR ρ) (hs : 0 ≤ s ∧ s < rS ρ 0) : SpP Γ m_X3_lengthOfStrip [vR r, vI s] w (rL ρ s) ∧ SpP Γ m_X3_lightAt [vR r, vI s] w (rG ρ s) ∧ SpP Γ m_X3_treadAt [vR r, vI s] w (rT ρ s) := by
  obtain ⟨⟨s0, s1, s2, s3, s4, s5, t0, t1, t2, t3, t4⟩, e0, e1, e2⟩ := id hR
  obtain ⟨q1, q2, q3⟩ := e1 s hs.1 hs.2
  have hm := ok.1
  exact ⟨i_X3_lengthOfStrip (k_X3_lengthOfStrip_0 (sp_at s1 (by omega) (by omega)) (rp q1)), i_X3_lightAt (k_X3_lightAt_0 (sp_at s2 (by omega) (by omega)) (rp q2)), i_X3_treadAt (k_X3_treadAt_0 (sp_at s3 (by omega) (by omega)) (rp q3))⟩
-- the carpet
theorem sp_tight {c : Nat} {ρ : Rm} {κ : Kp} {i : Int} (hC : CarC w c ρ κ) (hi : 0 ≤ i ∧ i < 4) : SpP Γ m_X0_tightness [vR c, vI i] w (kT κ i) := by
  obtain ⟨⟨s0, s1, s2, t0, t1⟩, e2, e3, e4, e5, e6, e7, eB, eT⟩ := id hC
  exact i_X0_tightness (k_X0_tightness_0 (sp_at s2 (by omega) (by omega)) (rp (eT i hi.1 hi.2)))
theorem bit_r {s i : Int} (hs : 0 ≤ s ∧ s < 16) (hi : 0 ≤ i ∧ i < 4) : bit s i = 0 ∨ bit s i = 1 := (bit01 s (r16 hs) i (r4 hi)).1
theorem sp_isHooked {c : Nat} {ρ : Rm} {κ : Kp} {i : Int} (hC : CarC w c ρ κ) (ok : okK ρ κ) (hi : 0 ≤ i ∧ i < 4) : SpP Γ m_X0_isHooked [vR c, vI i] w (bit (kH κ) i) := by
  obtain ⟨⟨s0, s1, s2, t0, t1⟩, e2, e3, e4, e5, e6, e7, eB, eT⟩ := id hC
  have hb := bit_r ok.2.2.2.2.1 hi
  refine i_X0_isHooked (k_X0_isHooked_0 (fun q => k_X0_isHooked_16 (rp ?_)) (fun q => k_X0_isHooked_12 (rp ?_)))
  · rw [e5] at q; exact ((hb.resolve_right q).symm)
  · rw [e5] at q; exact q.symm
theorem sp_isTorn {c : Nat} {ρ : Rm} {κ : Kp} {i : Int} (hC : CarC w c ρ κ) (ok : okK ρ κ) (hi : 0 ≤ i ∧ i < 4) : SpP Γ m_X0_isTorn [vR c, vI i] w (bit (kN κ) i) := by
  obtain ⟨⟨s0, s1, s2, t0, t1⟩, e2, e3, e4, e5, e6, e7, eB, eT⟩ := id hC
  have hb := bit_r ok.2.2.2.2.2.1 hi
  refine i_X0_isTorn (k_X0_isTorn_0 (fun q => k_X0_isTorn_16 (rp ?_)) (fun q => k_X0_isTorn_12 (rp ?_)))
  · rw [e6] at q; exact ((hb.resolve_right q).symm)
  · rw [e6] at q; exact q.symm
/-- neither hooked nor torn -/
abbrev freeK (κ : Kp) (i : Int) : Prop := bit (kH κ) i = 0 ∧ bit (kN κ) i = 0
theorem sp_isFree1 {c : Nat} {ρ : Rm} {κ : Kp} {i : Int} (hC : CarC w c ρ κ) (ok : okK ρ κ) (hi : 0 ≤ i ∧ i < 4) (h : freeK κ i) : SpP Γ m_X0_isFree [vR c, vI i] w 1 := by
  have s0 := hC.1.1
  exact i_X0_isFree (k_X0_isFree_0 ((sp_isHooked hC ok hi).cast h.1) (fun q => absurd rfl q) (fun _ => k_X0_isFree_8 ((sp_isTorn hC ok hi).cast h.2) (fun q => absurd rfl q) (fun _ => k_X0_isFree_16 (rp rfl))))
theorem sp_isFree0 {c : Nat} {ρ : Rm} {κ : Kp} {i : Int} (hC : CarC w c ρ κ) (ok : okK ρ κ) (hi : 0 ≤ i ∧ i < 4) (h : ¬ freeK κ i) : SpP Γ m_X0_isFree [vR c, vI i] w 0 := by
  have s0 := hC.1.1
  have b1 := bit_r ok.2.2.2.2.1 hi
  have b2 := bit_r ok.2.2.2.2.2.1 hi
  exact i_X0_isFree (k_X0_isFree_0 (sp_isHooked hC ok hi) (fun q => k_X0_isFree_20 (rp rfl)) (fun q => k_X0_isFree_8 (sp_isTorn hC ok hi) (fun _ => k_X0_isFree_20 (rp rfl)) (fun q2 => absurd ⟨q, q2⟩ h)))
theorem opp_r {i : Int} (hi : 0 ≤ i ∧ i < 4) : 0 ≤ opp i ∧ opp i < 4 := by
  unfold opp
  exact ⟨Int.tmod_nonneg _ (by omega), Int.tmod_lt_of_pos _ (by omega)⟩
theorem td2 {z : Int} (h : 0 ≤ z) : z.tdiv 2 = z / 2 := Int.tdiv_eq_ediv_of_nonneg h
theorem slk_r {k g h : Int} (hg : 1 ≤ g ∧ g ≤ 9) (hh : 0 ≤ h ∧ h ≤ 4) : 0 ≤ slk k g h ∧ slk k g h ≤ 18 := by
  unfold slk
  rw [td2 (by omega)]
  split
  · omega
  · split
    · omega
    · split <;> omega
theorem tby_r {ρ : Rm} {κ : Kp} {i f : Int} (okr : okR ρ) (ok : okK ρ κ) (hi : 0 ≤ i ∧ i < 4) (hf : 0 ≤ f ∧ f ≤ 20) : 0 ≤ tby ρ κ i f ∧ tby ρ κ i f ≤ 35 := by
  unfold tby
  split
  · omega
  · have h1 := (ok.2.2.2.1 (opp i) (opp_r hi).1 (opp_r hi).2)
    have h2 := slk_r (k := rS ρ 6) okr.2.2.2.2.2.2.2.1 (bcn_r _ (r16 ok.2.2.2.2.1)).1
    rw [td2 h1.1]
    omega
theorem sp_tby {c r : Nat} {ρ : Rm} {κ : Kp} {i f : Int} (hC : CarC w c ρ κ) (hR : RoomC w r ρ) (okr : okR ρ) (ok : okK ρ κ) (hi : 0 ≤ i ∧ i < 4) (hf : 0 ≤ f ∧ f ≤ 20) : SpP Γ m_X0_tightnessBy [vR c, vR r, vI i, vI f] w (tby ρ κ i f) := by
  obtain ⟨⟨s0, s1, s2, t0, t1⟩, e2, e3, e4, e5, e6, e7, eB, eT⟩ := id hC
  have sr := hR.1.1
  have e11 := hR.2.1 6 (by omega) (by omega)
  have e12 := hR.2.1 7 (by omega) (by omega)
  rw [show (6 : Int) + 5 = 11 by rfl] at e11
  rw [show (7 : Int) + 5 = 12 by rfl] at e12
  have hh := ok.2.2.2.2.1
  have hb := bcn_r _ (r16 hh)
  have h1 := (ok.2.2.2.1 (opp i) (opp_r hi).1 (opp_r hi).2)
  have h2 := slk_r (k := rS ρ 6) okr.2.2.2.2.2.2.2.1 hb.1
  have o6 := okr.2.2.2.2.2.2.1
  have o7 := okr.2.2.2.2.2.2.2.1
  refine i_X0_tightnessBy (k_X0_tightnessBy_0 (fun q => ?_) (fun q => ?_))
  · have hd := td2 h1.1
    refine k_X0_tightnessBy_9 (z1 := bcn (kH κ)) (z2 := slk (rS ρ 6) (rS ρ 7) (bcn (kH κ))) (z3 := kT κ (opp i)) ?_ ?_ (sp_tight hC (opp_r hi)) (rp ?_) (h8 := by rw [hd]; omega)
    · rw [e5]; exact sp_bc hh
    · rw [e11, e12]; exact sp_slack o6 (by omega) (by omega)
    · unfold tby
      rw [if_neg (by omega)]
  · refine k_X0_tightnessBy_7 (rp ?_)
    unfold tby
    rw [if_pos (by omega)]
theorem lkF_r {ρ : Rm} {κ : Kp} {i t : Int} : ∀ (n : Nat) (f : Int), lkF ρ κ i t f n = -4 ∨ (f ≤ lkF ρ κ i t f n ∧ lkF ρ κ i t f n < f + n)
  | 0, f => Or.inl rfl
  | n + 1, f => by
    show (if _ then f else lkF ρ κ i t (f + 1) n) = -4 ∨ _ ≤ (if _ then f else lkF ρ κ i t (f + 1) n) ∧ (if _ then f else lkF ρ κ i t (f + 1) n) < _
    split
    · right; omega
    · rcases lkF_r n (f + 1) with h | h
      · left; exact h
      · right; omega
theorem leastKick_loop {Ret : Option Value → Wd → Prop} {c r : Nat} {ρ : Rm} {κ : Kp} {i t : Int} (hC : CarC w c ρ κ) (hR : RoomC w r ρ) (okr : okR ρ) (ok : okK ρ κ) (hi : 0 ≤ i ∧ i < 4) (ht : 0 ≤ t ∧ t ≤ 30) : ∀ (n : Nat) (f : Int) (o5 : Option Value), 0 ≤ f → f + n = 21 → Ret (some (vI (lkF ρ κ i t f n))) w → G Γ m_X0_leastKick Ret 0 0 3 [some (vR c), some (vR r), some (vI i), some (vI t), some (vI f), o5] [] w := by
  have s0 := hC.1.1
  have sr := hR.1.1
  have e10 := hR.2.1 5 (by omega) (by omega)
  rw [show (5 : Int) + 5 = 10 by rfl] at e10
  have o5 := okr.2.2.2.2.2.1
  intro n
  induction n with
  | zero =>
    intro f o _ hf kr
    exact k_X0_leastKick_3 (fun _ => k_X0_leastKick_44 kr) (fun q => absurd q (by omega))
  | succ n ih =>
    intro f o hf0 hf kr
    have hb := tby_r okr ok hi (f := f) (by omega)
    have kn : ¬ (t ≤ tby ρ κ i f ∧ tby ρ κ i f ≤ rS ρ 5) → G Γ m_X0_leastKick Ret 0 0 38 [some (vR c), some (vR r), some (vI i), some (vI t), some (vI f), some (vI (tby ρ κ i f))] [] w := by
      intro q
      refine k_X0_leastKick_38 (ih (f + 1) _ (by omega) (by omega) ?_)
      have e : lkF ρ κ i t f (n + 1) = lkF ρ κ i t (f + 1) n := if_neg q
      rw [← e]
      exact kr
    refine k_X0_leastKick_3 (fun q => absurd q (by omega)) (fun _ => k_X0_leastKick_10 (sp_tby hC hR okr ok hi (by omega)) (fun q => kn (by omega)) (fun q => k_X0_leastKick_26 (fun q2 => kn (by omega)) (fun q2 => k_X0_leastKick_35 ?_)))
    have e : lkF ρ κ i t f (n + 1) = f := if_pos (by omega)
    rw [e] at kr
    exact kr
theorem sp_leastKick {c r : Nat} {ρ : Rm} {κ : Kp} {i t : Int} (hC : CarC w c ρ κ) (hR : RoomC w r ρ) (okr : okR ρ) (ok : okK ρ κ) (hi : 0 ≤ i ∧ i < 4) (ht : 0 ≤ t ∧ t ≤ 30) : SpP Γ m_X0_leastKick [vR c, vR r, vI i, vI t] w (lk ρ κ i t) :=
  i_X0_leastKick (k_X0_leastKick_0 (leastKick_loop hC hR okr ok hi ht 21 0 _ (by omega) (by omega) (rp rfl)))
end
