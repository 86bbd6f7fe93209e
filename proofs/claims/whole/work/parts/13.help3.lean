section
variable {Γ : Gm} {w : Wd}
theorem psum_ge {f : Int → Int} : ∀ n : Nat, (∀ k : Int, 0 ≤ k → k < n → 1 ≤ f k) → (n : Int) ≤ psum f n
  | 0, _ => Int.le_refl _
  | n + 1, h => by
    have h1 := psum_ge n (fun k a b => h k a (by omega))
    have h2 := h n (by omega) (by omega)
    show ((n + 1 : Nat) : Int) ≤ psum f n + f n
    omega
theorem psum_mono {f : Int → Int} {n : Nat} (h : ∀ k : Int, 0 ≤ k → k < n → 1 ≤ f k) : ∀ m : Nat, m ≤ n → psum f m ≤ psum f n := by
  intro m hm
  induction n with
  | zero => have : m = 0 := by omega
            subst this; exact Int.le_refl _
  | succ n ih =>
    by_cases e : m = n + 1
    · subst e; exact Int.le_refl _
    · have h1 := ih (fun k a b => h k a (by omega)) (by omega)
      have h2 := h n (by omega) (by omega)
      show psum f m ≤ psum f n + f n
      omega
theorem psum_congr {f g : Int → Int} : ∀ n : Nat, (∀ k : Nat, k < n → f k = g k) → psum f n = psum g n
  | 0, _ => rfl
  | n + 1, h => by
    show psum f n + f n = psum g n + g n
    rw [psum_congr n (fun k a => h k (by omega)), h n (by omega)]
theorem psum_0 {f : Int → Int} : ∀ n : Nat, (∀ k : Int, 0 ≤ k → k < n → 0 ≤ f k) → 0 ≤ psum f n
  | 0, _ => Int.le_refl _
  | n + 1, h => by
    have h1 := psum_0 n (fun k a b => h k a (by omega))
    have h2 := h n (by omega) (by omega)
    show 0 ≤ psum f n + f n
    omega
theorem okK.pos {ρ : Rm} {κ : Kp} (ok : okK ρ κ) : ∀ k : Int, 0 ≤ k → k < kC κ → 1 ≤ kB κ k := fun k a b => (ok.1 k a b).1
theorem okK.cnt {ρ : Rm} {κ : Kp} (okr : okR ρ) (ok : okK ρ κ) : kC κ ≤ 12 ∧ (kC κ : Int) ≤ covK κ ∧ covK κ ≤ 12 := by
  have h1 := psum_ge (f := kB κ) (kC κ) ok.pos
  have h2 := ok.2.1
  have h3 := okr.1
  have h4 : covK κ = psum (kB κ) (kC κ) := rfl
  omega
/-- the k-th length lies within the strips -/
theorem okK.at {ρ : Rm} {κ : Kp} (okr : okR ρ) (ok : okK ρ κ) {k : Nat} (hk : k < kC κ) : (1 ≤ kB κ k ∧ kB κ k ≤ 6) ∧ 0 ≤ psum (kB κ) k ∧ psum (kB κ) k + kB κ k ≤ rS ρ 0 ∧ (0 ≤ lenK ρ κ k ∧ lenK ρ κ k ≤ 45) := by
  have h0 := ok.1 k (by omega) (by omega)
  have h1 := psum_mono (f := kB κ) (n := kC κ) ok.pos (k + 1) (by omega)
  have h2 : psum (kB κ) (k + 1) = psum (kB κ) k + kB κ k := rfl
  have h3 := ok.2.1
  have h4 : covK κ = psum (kB κ) (kC κ) := rfl
  have h5 := psum_0 (f := kB κ) k (fun j a b => by have := ok.1 j a (by omega); omega)
  have h6 := okr.2.2.1
  have h7 := (okr.len (a := psum (kB κ) k) (b := kB κ k) h5 (by omega) (by omega)).2
  refine ⟨by omega, h5, by omega, ?_⟩
  unfold lenK
  rw [Int.toNat_natCast]
  exact h7
theorem lengthOver_loop {Ret : Option Value → Wd → Prop} {c : Nat} {ρ : Rm} {κ : Kp} {s : Int} (hC : CarC w c ρ κ) (okr : okR ρ) (ok : okK ρ κ) (hs : 0 ≤ s ∧ s ≤ 100) : ∀ (n k : Nat), k + n = kC κ → Ret (some (vI (lovF (kB κ) s k n))) w → G Γ m_X0_lengthOver Ret 0 0 4 [some (vR c), some (vI s), some (vI (psum (kB κ) k)), some (vI k)] [] w := by
  obtain ⟨⟨s0, s1, s2, t0, t1⟩, e2, e3, e4, e5, e6, e7, eB, eT⟩ := id hC
  have hc := ok.cnt okr
  have hm1 := okr.1
  intro n
  induction n with
  | zero =>
    intro k hk kr
    exact k_X0_lengthOver_4 (fun _ => k_X0_lengthOver_36 kr) (fun q => absurd q (by omega))
  | succ n ih =>
    intro k hk kr
    have ha := ok.at okr (k := k) (by omega)
    have hb := eB k (by omega) (by omega)
    have hp : psum (kB κ) (k + 1) = psum (kB κ) k + kB κ k := rfl
    refine k_X0_lengthOver_4 (fun q => absurd q (by omega)) (fun _ => k_X0_lengthOver_12 (z2 := kB κ k) (q1 := c + 1) ((sp_at s1 (by omega) (by omega)).cast hb) (fun q => k_X0_lengthOver_30 ?_) (fun q => k_X0_lengthOver_28 ?_))
    · have h := ih (k + 1) (by omega) (by
        have e : lovF (kB κ) s k (n + 1) = lovF (kB κ) s (k + 1) n := if_neg (by omega)
        rw [← e]; exact kr)
      rw [hp, Int.natCast_add] at h
      exact h
    · have e : lovF (kB κ) s k (n + 1) = k := if_pos (by omega)
      rw [e] at kr
      exact kr
theorem sp_lengthOver {c : Nat} {ρ : Rm} {κ : Kp} {s : Int} (hC : CarC w c ρ κ) (okr : okR ρ) (ok : okK ρ κ) (hs : 0 ≤ s ∧ s ≤ 100) : SpP Γ m_X0_lengthOver [vR c, vI s] w (lov κ s) :=
  i_X0_lengthOver (k_X0_lengthOver_0 (lengthOver_loop hC okr ok hs (kC κ) 0 (by omega) (rp rfl)))
theorem lovF_r {f : Int → Int} {s : Int} : ∀ (n k : Nat), lovF f s k n = -4 ∨ ((k : Int) ≤ lovF f s k n ∧ lovF f s k n < k + n)
  | 0, k => Or.inl rfl
  | n + 1, k => by
    show (if _ then (k : Int) else lovF f s (k + 1) n) = -4 ∨ (_ ≤ (if _ then (k : Int) else lovF f s (k + 1) n) ∧ (if _ then (k : Int) else lovF f s (k + 1) n) < _)
    split
    · right; omega
    · rcases lovF_r n (k + 1) with h | h
      · left; exact h
      · right; omega
theorem lov_r {ρ : Rm} {κ : Kp} (okr : okR ρ) (ok : okK ρ κ) (s : Int) : -4 ≤ lov κ s ∧ lov κ s ≤ 12 := by
  have := ok.cnt okr
  rcases lovF_r (f := kB κ) (s := s) (kC κ) 0 with h | h <;> unfold lov <;> omega
def seamK (κ : Kp) (s : Int) : Int := if lov κ s ≠ -4 ∧ lov κ (s + 1) ≠ -4 ∧ lov κ (s + 1) ≠ lov κ s then 1 else 0
theorem sp_isSeamAt {c : Nat} {ρ : Rm} {κ : Kp} {s : Int} (hC : CarC w c ρ κ) (okr : okR ρ) (ok : okK ρ κ) (hs : 0 ≤ s ∧ s ≤ 90) : SpP Γ m_X0_isSeamAt [vR c, vI s] w (seamK κ s) := by
  have s0 := hC.1.1
  have h1 := lov_r okr ok s
  have h2 := lov_r okr ok (s + 1)
  refine i_X0_isSeamAt (k_X0_isSeamAt_0 (sp_lengthOver hC okr ok (by omega)) (sp_lengthOver hC okr ok (by omega)) (fun q => k_X0_isSeamAt_35 (rp ?_)) (fun q => k_X0_isSeamAt_20 (fun q2 => k_X0_isSeamAt_35 (rp ?_)) (fun q2 => k_X0_isSeamAt_26 (fun q3 => k_X0_isSeamAt_35 (rp ?_)) (fun q3 => k_X0_isSeamAt_31 (rp ?_))))) <;> unfold seamK
  · rw [if_neg (by omega)]
  · rw [if_neg (by omega)]
  · rw [if_neg (by omega)]
  · rw [if_pos (by omega)]
theorem sp_isCovered1 {c r : Nat} {ρ : Rm} {κ : Kp} (hC : CarC w c ρ κ) (hR : RoomC w r ρ) (okr : okR ρ) (ok : okK ρ κ) (h : covK κ = rS ρ 0) : SpP Γ m_X0_isCovered [vR c, vR r] w 1 := by
  have s0 := hC.1.1
  have sr := hR.1.1
  have e3 := hC.2.2.1
  have e5 := hR.2.1 0 (by omega) (by omega)
  rw [show (0 : Int) + 5 = 5 by rfl] at e5
  have h1 := ok.cnt okr
  have h2 := okr.1
  exact i_X0_isCovered (k_X0_isCovered_0 (fun q => absurd q (by omega)) (fun _ => k_X0_isCovered_11 (rp rfl)))
theorem sp_isCovered0 {c r : Nat} {ρ : Rm} {κ : Kp} (hC : CarC w c ρ κ) (hR : RoomC w r ρ) (okr : okR ρ) (ok : okK ρ κ) (h : covK κ ≠ rS ρ 0) : SpP Γ m_X0_isCovered [vR c, vR r] w 0 := by
  have s0 := hC.1.1
  have sr := hR.1.1
  have e3 := hC.2.2.1
  have e5 := hR.2.1 0 (by omega) (by omega)
  rw [show (0 : Int) + 5 = 5 by rfl] at e5
  have h1 := ok.cnt okr
  have h2 := okr.1
  have h3 := ok.2.1
  exact i_X0_isCovered (k_X0_isCovered_0 (fun _ => k_X0_isCovered_15 (rp rfl)) (fun q => absurd q (by omega)))
/-- a length for b strips can be cut -/
abbrev cutOk (ρ : Rm) (κ : Kp) (b : Int) : Prop := b ≤ rS ρ 2 ∧ covK κ + b ≤ rS ρ 0 ∧ lenF ρ (covK κ) b ≤ rollK ρ κ
theorem rollK_r {ρ : Rm} {κ : Kp} (okr : okR ρ) (ok : okK ρ κ) : 0 ≤ rollK ρ κ ∧ rollK ρ κ ≤ 99 := by
  have h1 := ok.2.2.1
  have h2 := psum_0 (f := lenK ρ κ) (kC κ) (fun k a b => by
    have := (ok.at okr (k := k.toNat) (by omega)).2.2.2.1
    rw [show ((k.toNat : Nat) : Int) = k by omega] at this
    exact this)
  have h3 := okr.2.2.2.1
  have h4 : rollK ρ κ = rS ρ 3 - psum (lenK ρ κ) (kC κ) := rfl
  omega
theorem sp_canCut1 {c r : Nat} {ρ : Rm} {κ : Kp} {b : Int} (hC : CarC w c ρ κ) (hR : RoomC w r ρ) (okr : okR ρ) (ok : okK ρ κ) (hb : 1 ≤ b ∧ b ≤ 6) (h : cutOk ρ κ b) : SpP Γ m_X0_canCut [vR c, vR r, vI b] w 1 := by
  obtain ⟨⟨s0, s1, s2, t0, t1⟩, e2, e3, e4, e5, e6, e7, eB, eT⟩ := id hC
  have sr := hR.1.1
  have f5 := hR.2.1 0 (by omega) (by omega)
  have f7 := hR.2.1 2 (by omega) (by omega)
  rw [show (0 : Int) + 5 = 5 by rfl] at f5
  rw [show (2 : Int) + 5 = 7 by rfl] at f7
  have h1 := ok.cnt okr
  have h2 := okr.1
  have h3 := okr.2.2.1
  have h4 := rollK_r okr ok
  have h5 := (okr.len (a := covK κ) (b := b) (by omega) (by omega) h.2.1).2
  have h6 := h.2.2
  have h7 := h.1
  refine i_X0_canCut (k_X0_canCut_0 (fun q => absurd q (by omega)) (fun _ => k_X0_canCut_8 (fun q => absurd q (by have := h.2.1; omega)) (fun _ => k_X0_canCut_21 (z1 := lenF ρ (covK κ) b) ?_ (fun q => absurd q (by omega)) (fun _ => k_X0_canCut_37 (rp rfl)))))
  rw [e3]
  exact sp_lengthFor hR okr (by omega) (by omega) h.2.1
theorem sp_canCut0 {c r : Nat} {ρ : Rm} {κ : Kp} {b : Int} (hC : CarC w c ρ κ) (hR : RoomC w r ρ) (okr : okR ρ) (ok : okK ρ κ) (hb : 1 ≤ b ∧ b ≤ 6) (h : ¬ cutOk ρ κ b) : SpP Γ m_X0_canCut [vR c, vR r, vI b] w 0 := by
  obtain ⟨⟨s0, s1, s2, t0, t1⟩, e2, e3, e4, e5, e6, e7, eB, eT⟩ := id hC
  have sr := hR.1.1
  have f5 := hR.2.1 0 (by omega) (by omega)
  have f7 := hR.2.1 2 (by omega) (by omega)
  rw [show (0 : Int) + 5 = 5 by rfl] at f5
  rw [show (2 : Int) + 5 = 7 by rfl] at f7
  have h1 := ok.cnt okr
  have h2 := okr.1
  have h3 := okr.2.2.1
  have h4 := rollK_r okr ok
  refine i_X0_canCut (k_X0_canCut_0 (fun q => k_X0_canCut_41 (rp rfl)) (fun q1 => k_X0_canCut_8 (fun q => k_X0_canCut_41 (rp rfl)) (fun q2 => ?_)))
  have h5 := (okr.len (a := covK κ) (b := b) (by omega) (by omega) (by omega)).2
  refine k_X0_canCut_21 (z1 := lenF ρ (covK κ) b) ?_ (fun q => k_X0_canCut_41 (rp rfl)) (fun q => absurd ?_ h)
  · rw [e3]
    exact sp_lengthFor hR okr (by omega) (by omega) (by omega)
  · exact ⟨by omega, by omega, by omega⟩
theorem hasRest_loop {Ret : Option Value → Wd → Prop} {c r : Nat} {ρ : Rm} {κ : Kp} {a b : Int} (hC : CarC w c ρ κ) (hR : RoomC w r ρ) (okr : okR ρ) (ok : okK ρ κ) (ha : 1 ≤ a ∧ a ≤ 6) (hb : 1 ≤ b ∧ b ≤ 40) : ∀ (n k : Nat) (o6 : Option Value), k + n = kC κ → Ret (some (vI (hrF ρ κ a b k n))) w → G Γ m_X0_hasRestFor Ret 0 0 6 [some (vR c), some (vR r), some (vI a), some (vI b), some (vI (psum (kB κ) k)), some (vI k), o6] [] w := by
  obtain ⟨⟨s0, s1, s2, t0, t1⟩, e2, e3, e4, e5, e6, e7, eB, eT⟩ := id hC
  have sr := hR.1.1
  have f7 := hR.2.1 2 (by omega) (by omega)
  rw [show (2 : Int) + 5 = 7 by rfl] at f7
  have hc := ok.cnt okr
  have o2 := okr.2.2.1
  intro n
  induction n with
  | zero =>
    intro k o hk kr
    exact k_X0_hasRestFor_6 (fun _ => k_X0_hasRestFor_64 kr) (fun q => absurd q (by omega))
  | succ n ih =>
    intro k o hk kr
    have ha := ok.at okr (k := k) (by omega)
    have hb := eB k (by omega) (by omega)
    have hp : psum (kB κ) (k + 1) = psum (kB κ) k + kB κ k := rfl
    have kn : ¬ (a ≤ rS ρ 2 - kB κ k ∧ b ≤ lenK ρ κ k) → G Γ m_X0_hasRestFor Ret 0 0 51 [some (vR c), some (vR r), some (vI a), some (vI b), some (vI (psum (kB κ) k)), some (vI k), some (vI (kB κ k))] [] w := by
      intro q
      refine k_X0_hasRestFor_51 ?_
      have h := ih (k + 1) (some (vI (kB κ k))) (by omega) (by
        have e : hrF ρ κ a b k (n + 1) = hrF ρ κ a b (k + 1) n := if_neg q
        rw [← e]; exact kr)
      rw [hp, Int.natCast_add] at h
      exact h
    refine k_X0_hasRestFor_6 (fun q => absurd q (by omega)) (fun _ => k_X0_hasRestFor_15 (z2 := kB κ k) (q1 := c + 1) ((sp_at s1 (by omega) (by omega)).cast hb) (fun q => kn (by omega)) (fun q => k_X0_hasRestFor_37 (z1 := lenK ρ κ k) ?_ (fun q2 => kn (by omega)) (fun q2 => k_X0_hasRestFor_49 ?_)))
    · have := sp_lengthFor (Γ := Γ) (w := w) hR okr (a := psum (kB κ) k) (b := kB κ k) (by omega) (by omega) (by omega)
      unfold lenK
      rw [Int.toNat_natCast]
      exact this
    · have e : hrF ρ κ a b k (n + 1) = 1 := if_pos (by omega)
      rw [e] at kr
      exact kr
theorem sp_hasRest {c r : Nat} {ρ : Rm} {κ : Kp} {a b : Int} (hC : CarC w c ρ κ) (hR : RoomC w r ρ) (okr : okR ρ) (ok : okK ρ κ) (ha : 1 ≤ a ∧ a ≤ 6) (hb : 1 ≤ b ∧ b ≤ 40) : SpP Γ m_X0_hasRestFor [vR c, vR r, vI a, vI b] w (hrF ρ κ a b 0 (kC κ)) :=
  i_X0_hasRestFor (k_X0_hasRestFor_0 (hasRest_loop hC hR okr ok ha hb (kC κ) 0 _ (by omega) (rp rfl)))
theorem areaOfRests_loop {Ret : Option Value → Wd → Prop} {c r : Nat} {ρ : Rm} {κ : Kp} (hC : CarC w c ρ κ) (hR : RoomC w r ρ) (okr : okR ρ) (ok : okK ρ κ) (kr : Ret (some (vI (area ρ κ))) w) : ∀ (n k : Nat) (o5 : Option Value), k + n = kC κ → G Γ m_X0_areaOfRests Ret 0 0 7 [some (vR c), some (vR r), some (vI (psum (kB κ) k)), some (vI (psum (fun k => (rS ρ 2 - kB κ k) * lenK ρ κ k) k)), some (vI k), o5] [] w := by
  obtain ⟨⟨s0, s1, s2, t0, t1⟩, e2, e3, e4, e5, e6, e7, eB, eT⟩ := id hC
  have sr := hR.1.1
  have f7 := hR.2.1 2 (by omega) (by omega)
  rw [show (2 : Int) + 5 = 7 by rfl] at f7
  have hc := ok.cnt okr
  have hm1 := okr.1
  intro n
  induction n with
  | zero =>
    intro k o hk
    have : k = kC κ := by omega
    subst this
    exact k_X0_areaOfRests_7 (fun _ => k_X0_areaOfRests_56 kr) (fun q => absurd q (by omega))
  | succ n ih =>
    intro k o hk
    have ha := ok.at okr (k := k) (by omega)
    have hb := eB k (by omega) (by omega)
    have hp : psum (kB κ) (k + 1) = psum (kB κ) k + kB κ k := rfl
    refine k_X0_areaOfRests_7 (fun q => absurd q (by omega)) (fun _ => k_X0_areaOfRests_16 (z2 := kB κ k) (z3 := lenK ρ κ k) (q1 := c + 1) ((sp_at s1 (by omega) (by omega)).cast hb) ?_ ?_)
    · have := sp_lengthFor (Γ := Γ) (w := w) hR okr (a := psum (kB κ) k) (b := kB κ k) (by omega) (by omega) (by omega)
      unfold lenK
      rw [Int.toNat_natCast]
      exact this
    · have h := ih (k + 1) (some (vI (kB κ k))) (by omega)
      rw [hp, Int.natCast_add] at h
      rw [f7]
      exact h
theorem sp_area {c r : Nat} {ρ : Rm} {κ : Kp} (hC : CarC w c ρ κ) (hR : RoomC w r ρ) (okr : okR ρ) (ok : okK ρ κ) : SpP Γ m_X0_areaOfRests [vR c, vR r] w (area ρ κ) :=
  i_X0_areaOfRests (k_X0_areaOfRests_0 (areaOfRests_loop hC hR okr ok (rp rfl) (kC κ) 0 _ (by omega)))
theorem monthsToWave_loop {Ret : Option Value → Wd → Prop} {c r : Nat} {ρ : Rm} {κ : Kp} (hC : CarC w c ρ κ) (hR : RoomC w r ρ) (okr : okR ρ) (ok : okK ρ κ) : ∀ (n : Nat) (t a : Int) (i : Int), 0 ≤ a → a + n = 61 → -10 ≤ t ∧ t ≤ 100 → Ret (some (vI (mwF ρ (kM κ) 61 t a n))) w → G Γ m_X0_monthsToWave Ret 0 0 9 [some (vR c), some (vR r), some (vI i), some (vI t), some (vI a)] [] w := by
  obtain ⟨⟨s0, s1, s2, t0, t1⟩, e2, e3, e4, e5, e6, e7, eB, eT⟩ := id hC
  have sr := hR.1.1
  have hm := ok.2.2.2.2.2.2
  intro n
  induction n with
  | zero =>
    intro t a i _ ha _ kr
    exact k_X0_monthsToWave_9 (fun _ => k_X0_monthsToWave_44 kr) (fun q => absurd q (by omega))
  | succ n ih =>
    intro t a i h0 ha ht kr
    have hl := lss_r okr (m := kM κ + a) (by omega)
    refine k_X0_monthsToWave_9 (fun q => absurd q (by omega)) (fun _ => k_X0_monthsToWave_16 (fun q => k_X0_monthsToWave_24 (z1 := lss ρ (kM κ + a)) ?_ (ih _ _ _ (by omega) (by omega) (by omega) ?_)) (fun q => k_X0_monthsToWave_21 ?_))
    · rw [e7]; exact sp_lss hR okr (by omega)
    · have e : mwF ρ (kM κ) 61 t a (n + 1) = mwF ρ (kM κ) 61 (t - lss ρ (kM κ + a)) (a + 1) n := if_neg (by omega)
      rw [← e]; exact kr
    · have e : mwF ρ (kM κ) 61 t a (n + 1) = a := if_pos (by omega)
      rw [e] at kr; exact kr
theorem sp_monthsToWave {c r : Nat} {ρ : Rm} {κ : Kp} {i : Int} (hC : CarC w c ρ κ) (hR : RoomC w r ρ) (okr : okR ρ) (ok : okK ρ κ) (hi : 0 ≤ i ∧ i < 4) : SpP Γ m_X0_monthsToWave [vR c, vR r, vI i] w (mwF ρ (kM κ) 61 (kT κ i) 0 61) := by
  have s0 := hC.1.1
  have ht := ok.2.2.2.1 i hi.1 hi.2
  exact i_X0_monthsToWave (k_X0_monthsToWave_0 (sp_tight hC hi) (monthsToWave_loop hC hR okr ok 61 _ 0 _ (by omega) (by omega) (by omega) (rp rfl)))
theorem sp_tightAll {c : Nat} {ρ : Rm} {κ : Kp} (hC : CarC w c ρ κ) : SpP Γ m_X0_tightnessInAll [vR c] w (psum (kT κ) 4) := by
  have s0 := hC.1.1
  refine i_X0_tightnessInAll (k_X0_tightnessInAll_0 ?_)
  have key : ∀ (n k : Nat), k + n = 4 → G Γ m_X0_tightnessInAll (fun v u => ∃ z, v = some (vI z) ∧ z = psum (kT κ) 4 ∧ u = w) 0 0 4 [some (vR c), some (vI (psum (kT κ) k)), some (vI k)] [] w := by
    intro n
    induction n with
    | zero =>
      intro k hk
      have : k = 4 := by omega
      subst this
      exact k_X0_tightnessInAll_4 (fun _ => k_X0_tightnessInAll_23 (rp rfl)) (fun q => absurd q (by omega))
    | succ n ih =>
      intro k hk
      refine k_X0_tightnessInAll_4 (fun q => absurd q (by omega)) (fun _ => k_X0_tightnessInAll_9 (z1 := kT κ k) (sp_tight hC (by omega)) ?_)
      have h := ih (k + 1) (by omega)
      rw [Int.natCast_add] at h
      exact h
  exact key 4 0 rfl
end
