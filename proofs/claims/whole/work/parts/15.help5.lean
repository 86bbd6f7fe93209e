section
variable {Γ : Gm} {w : Wd}
/-- the model's objects -/
def ModS (w : Wd) : Prop := (sh w 63 = some (.inr 7) ∧ sh w 64 = some (.inl (0, 200)) ∧ sh w 65 = some (.inl (0, 36)) ∧ sh w 66 = some (.inl (0, 12)) ∧ sh w 67 = some (.inl (0, 6)) ∧ sh w 68 = some (.inl (0, 36)) ∧ sh w 69 = some (.inl (0, 12)) ∧ sh w 70 = some (.inl (0, 6)) ∧ sh w 71 = some (.inl (0, 32)) ∧ sh w 72 = some (.inl (0, 32)) ∧ sh w 73 = some (.inl (0, 256)) ∧ sh w 74 = some (.inl (0, 64)) ∧ sh w 75 = some (.inl (0, 12)) ∧ sh w 76 = some (.inl (0, 12)) ∧ sh w 77 = some (.inl (0, 12))) ∧
  wR w 63 1 = vR 64 ∧ wR w 63 6 = vR 65 ∧ wR w 63 7 = vR 66 ∧ wR w 63 8 = vR 67 ∧ wR w 63 11 = vR 68 ∧ wR w 63 12 = vR 69 ∧ wR w 63 13 = vR 70 ∧ wR w 63 14 = vR 71 ∧ wR w 63 15 = vR 72 ∧ wR w 63 16 = vR 73 ∧ wR w 63 18 = vR 74 ∧ wR w 63 21 = vR 75 ∧ wR w 63 22 = vR 76 ∧ wR w 63 23 = vR 77
theorem ModS.fr {P : Nat → Prop} {w u : Wd} (h : ModS w) (g : Fr P w u) : ModS u := by
  unfold ModS at h ⊢
  simp only [g.sh, g.2.2]
  exact h
def RoomM (w : Wd) (ρ : Rm) : Prop := ModS w ∧ wI w 63 9 = rS ρ 0 ∧ wI w 63 10 = rS ρ 1 ∧ (∀ i : Int, 0 ≤ i → i < 6 → wI w 70 i = rS ρ (i + 2)) ∧ (∀ s : Int, 0 ≤ s → s < rS ρ 0 → wI w 68 (3 * s) = rL ρ s ∧ wI w 68 (3 * s + 1) = rG ρ s ∧ wI w 68 (3 * s + 2) = rT ρ s) ∧ ∀ k : Int, 0 ≤ k → k < rS ρ 1 → wI w 69 k = rD ρ k
/-- what a code may change without changing the room: neither the scalars nor 68, 69, 70 -/
theorem RoomM.fr {P : Nat → Prop} {w u : Wd} {ρ : Rm} (h : RoomM w ρ) (g : Fr P w u) (h9 : wI u 63 9 = wI w 63 9 ∧ wI u 63 10 = wI w 63 10) (hp : ¬ P 68 ∧ ¬ P 69 ∧ ¬ P 70) : RoomM u ρ := by
  obtain ⟨h0, h1, h2, h3, h4, h5⟩ := h
  refine ⟨h0.fr g, h9.1.trans h1, h9.2.trans h2, fun i a b => ?_, fun s a b => ?_, fun k a b => ?_⟩
  · rw [g.2.1 _ hp.2.2]; exact h3 i a b
  · rw [g.2.1 _ hp.1, g.2.1 _ hp.1, g.2.1 _ hp.1]; exact h4 s a b
  · rw [g.2.1 _ hp.2.1]; exact h5 k a b
theorem RoomM.fr' {P : Nat → Prop} {w u : Wd} {ρ : Rm} (h : RoomM w ρ) (g : Fr P w u) (hp : ¬ P 63 ∧ ¬ P 68 ∧ ¬ P 69 ∧ ¬ P 70) : RoomM u ρ := h.fr g ⟨g.2.1 _ hp.1 _, g.2.1 _ hp.1 _⟩ hp.2
def CarA (w : Wd) (a : Nat) (ρ : Rm) (κ : Kp) : Prop := sh w a = some (.inl (0, 32)) ∧ wI w a 0 = kC κ ∧ (∀ k : Int, 0 ≤ k → k < kC κ → wI w a (1 + k) = kB κ k ∧ wI w a (13 + k) = lenK ρ κ k) ∧ (∀ i : Int, 0 ≤ i → i < 4 → wI w a (25 + i) = kT κ i) ∧ wI w a 29 = kH κ ∧ wI w a 30 = kN κ ∧ wI w a 31 = kM κ
theorem CarA.fr {P : Nat → Prop} {w u : Wd} {a : Nat} {ρ : Rm} {κ : Kp} (h : CarA w a ρ κ) (g : Fr P w u) (hp : ¬ P a) : CarA u a ρ κ := by
  have q0 := g.2.1 a hp
  unfold CarA at h ⊢
  simp only [q0, g.sh]
  exact h
theorem CarA.toM {w : Wd} {a : Nat} {ρ : Rm} {κ : Kp} (h : CarA w a ρ κ) : CarM w a 0 ρ κ := by
  obtain ⟨-, h0, h1, h2, h3, h4, h5⟩ := h
  refine ⟨h0, fun k a b => ?_, fun i a b => ?_, by rw [Int.zero_add]; exact h3, by rw [Int.zero_add]; exact h4, by rw [Int.zero_add]; exact h5⟩
  · rw [Int.zero_add, Int.zero_add]; exact h1 k a b
  · rw [Int.zero_add]; exact h2 i a b
theorem CarM.toA {w : Wd} {a : Nat} {ρ : Rm} {κ : Kp} (hs : sh w a = some (.inl (0, 32))) (h : CarM w a 0 ρ κ) : CarA w a ρ κ := by
  obtain ⟨h0, h1, h2, h3, h4, h5⟩ := h
  refine ⟨hs, h0, fun k a b => ?_, fun i a b => ?_, by rw [Int.zero_add] at h3; exact h3, by rw [Int.zero_add] at h4; exact h4, by rw [Int.zero_add] at h5; exact h5⟩
  · have := h1 k a b; rw [Int.zero_add, Int.zero_add] at this; exact this
  · have := h2 i a b; rw [Int.zero_add] at this; exact this
theorem CarM.mv {w u : Wd} {a b : Nat} {o o' : Int} {ρ : Rm} {κ : Kp} (okr : okR ρ) (ok : okK ρ κ) (h : CarM w a o ρ κ) (e : ∀ k : Int, 0 ≤ k → k < 32 → wI u b (o' + k) = wI w a (o + k)) : CarM u b o' ρ κ := by
  have hc := ok.cnt okr
  obtain ⟨h0, h1, h2, h3, h4, h5⟩ := h
  have e0 := e 0 (by omega) (by omega)
  rw [Int.add_zero, Int.add_zero] at e0
  refine ⟨by rw [e0]; exact h0, fun k x y => ?_, fun i x y => ?_, by rw [e 29 (by omega) (by omega)]; exact h3, by rw [e 30 (by omega) (by omega)]; exact h4, by rw [e 31 (by omega) (by omega)]; exact h5⟩
  · have a1 := e (1 + k) (by omega) (by omega)
    have a2 := e (13 + k) (by omega) (by omega)
    rw [← Int.add_assoc, ← Int.add_assoc] at a1 a2
    rw [a1, a2]
    exact h1 k x y
  · have a1 := e (25 + i) (by omega) (by omega)
    rw [← Int.add_assoc, ← Int.add_assoc] at a1
    rw [a1]
    exact h2 i x y
theorem sp_in1 {a b c : Int} (h : b ≤ a ∧ a ≤ c) (ha : sm a) (hb : sm b) (hc : sm c) : SpP Γ m_X7_in [vI a, vI b, vI c] w 1 :=
  i_X7_in (k_X7_in_0 (fun q => absurd q (by omega)) (fun _ => k_X7_in_5 (fun q => absurd q (by omega)) (fun _ => k_X7_in_10 (rp rfl))))
theorem sp_in0 {a b c : Int} (h : ¬ (b ≤ a ∧ a ≤ c)) (ha : sm a) (hb : sm b) (hc : sm c) : SpP Γ m_X7_in [vI a, vI b, vI c] w 0 :=
  i_X7_in (k_X7_in_0 (fun _ => k_X7_in_14 (rp rfl)) (fun _ => k_X7_in_5 (fun _ => k_X7_in_14 (rp rfl)) (fun q => absurd q (by omega))))
theorem sp_has {s i : Int} : SpP Γ m_X7_has [vI s, vI i] w (if bit s i = 1 then 1 else 0) :=
  i_X7_has (k_X7_has_0 (fun q => k_X7_has_13 (rp (by unfold bit; rw [if_neg q]))) (fun q => k_X7_has_9 (rp (by unfold bit; rw [if_pos q]))))
theorem sp_hasb {s i : Int} (hs : 0 ≤ s ∧ s < 16) (hi : 0 ≤ i ∧ i < 4) : SpP Γ m_X7_has [vI s, vI i] w (bit s i) :=
  sp_has.cast (by rcases bit_r hs hi with h | h <;> rw [h] <;> decide)
theorem sp_bits {s : Int} : SpP Γ m_X7_bits [vI s] w (bcn s) := by
  refine i_X7_bits (k_X7_bits_0 ?_)
  refine k_X7_bits_4 (fun q => absurd q (by omega)) (fun _ => k_X7_bits_9 ?_)
  refine k_X7_bits_4 (fun q => absurd q (by omega)) (fun _ => k_X7_bits_9 ?_)
  refine k_X7_bits_4 (fun q => absurd q (by omega)) (fun _ => k_X7_bits_9 ?_)
  refine k_X7_bits_4 (fun q => absurd q (by omega)) (fun _ => k_X7_bits_9 ?_)
  refine k_X7_bits_4 (fun _ => k_X7_bits_23 (rp ?_)) (fun q => absurd q (by omega))
  unfold bcn bit
  rw [show (0 : Int) + 1 = 1 by rfl, show (1 : Int) + 1 = 2 by rfl, show (2 : Int) + 1 = 3 by rfl, Int.zero_add]
theorem coveredIn_loop {Ret : Option Value → Wd → Prop} {a : Nat} {ρ : Rm} {κ : Kp} (hA : CarA w a ρ κ) (okr : okR ρ) (ok : okK ρ κ) (kr : Ret (some (vI (covK κ))) w) : ∀ (n k : Nat), k + n = kC κ → G Γ m_X7_coveredIn Ret 0 0 4 [some (vR a), some (vI (psum (kB κ) k)), some (vI k)] [] w := by
  obtain ⟨s0, e0, eB, eT, e29, e30, e31⟩ := id hA
  have hc := ok.cnt okr
  intro n
  induction n with
  | zero =>
    intro k hk
    have : k = kC κ := by omega
    subst this
    exact k_X7_coveredIn_4 (n1 := 32) (fun _ => k_X7_coveredIn_25 kr) (fun q => absurd q (by omega))
  | succ n ih =>
    intro k hk
    have hb := (eB k (by omega) (by omega)).1
    refine k_X7_coveredIn_4 (n1 := 32) (fun q => absurd q (by omega)) (fun _ => k_X7_coveredIn_11 (n1 := 32) ?_)
    have h := ih (k + 1) (by omega)
    rw [Int.natCast_add] at h
    rw [hb]
    exact h
theorem sp_coveredIn {a : Nat} {ρ : Rm} {κ : Kp} (hA : CarA w a ρ κ) (okr : okR ρ) (ok : okK ρ κ) : SpP Γ m_X7_coveredIn [vR a] w (covK κ) :=
  i_X7_coveredIn (k_X7_coveredIn_0 (coveredIn_loop hA okr ok (rp rfl) (kC κ) 0 (by omega)))
theorem rollIn_loop {Ret : Option Value → Wd → Prop} {a : Nat} {ρ : Rm} {κ : Kp} (hA : CarA w a ρ κ) (okr : okR ρ) (ok : okK ρ κ) (kr : Ret (some (vI (rollK ρ κ))) w) : ∀ (n k : Nat), k + n = kC κ → G Γ m_X7_rollIn Ret 0 0 9 [some (vR 63), some (vR a), some (vI (rS ρ 3 - psum (lenK ρ κ) k)), some (vI k)] [] w := by
  obtain ⟨s0, e0, eB, eT, e29, e30, e31⟩ := id hA
  have hc := ok.cnt okr
  intro n
  induction n with
  | zero =>
    intro k hk
    have : k = kC κ := by omega
    subst this
    exact k_X7_rollIn_9 (n1 := 32) (fun _ => k_X7_rollIn_31 kr) (fun q => absurd q (by omega))
  | succ n ih =>
    intro k hk
    have hb := (eB k (by omega) (by omega)).2
    refine k_X7_rollIn_9 (n1 := 32) (fun q => absurd q (by omega)) (fun _ => k_X7_rollIn_16 (n1 := 32) ?_)
    have h := ih (k + 1) (by omega)
    rw [Int.natCast_add] at h
    rw [hb]
    have e : rS ρ 3 - psum (lenK ρ κ) k - lenK ρ κ k = rS ρ 3 - psum (lenK ρ κ) (k + 1) := by
      show _ = rS ρ 3 - (psum (lenK ρ κ) k + lenK ρ κ k)
      omega
    rw [e]
    exact h
theorem sp_rollIn {a : Nat} {ρ : Rm} {κ : Kp} (hM : RoomM w ρ) (hA : CarA w a ρ κ) (okr : okR ρ) (ok : okK ρ κ) : SpP Γ m_X7_rollIn [vR 63, vR a] w (rollK ρ κ) := by
  obtain ⟨⟨⟨c0, c1, c2, c3, c4, c5, c6, c7, c8, c9, c10, c11, c12, c13, c14⟩, d1, d2, d3, d4, d5, d6, d7, d8, d9, d10, d11, d12, d13, d14⟩, f9, f10, fl, fs, fd⟩ := id hM
  have e1 := fl 1 (by omega) (by omega)
  rw [show (1 : Int) + 2 = 3 by rfl] at e1
  refine i_X7_rollIn (k_X7_rollIn_0 (q1 := 70) (n2 := 6) ?_)
  have h := rollIn_loop (Γ := Γ) (Ret := fun v u => ∃ z, v = some (vI z) ∧ z = rollK ρ κ ∧ u = w) hA okr ok (rp rfl) (kC κ) 0 (by omega)
  rw [e1]
  have e : rS ρ 3 - psum (lenK ρ κ) 0 = rS ρ 3 := by show rS ρ 3 - 0 = _; omega
  rw [e] at h
  exact h
theorem lengthOf_loop {Ret : Option Value → Wd → Prop} {ρ : Rm} {κ : Kp} {s : Int} (hM : RoomM w ρ) (hA : CarA w 71 ρ κ) (okr : okR ρ) (ok : okK ρ κ) (hs : 0 ≤ s ∧ s ≤ 100) : ∀ (n k : Nat), k + n = kC κ → Ret (some (vI (lovF (kB κ) s k n))) w → G Γ m_X7_lengthOf Ret 0 0 4 [some (vR 63), some (vI s), some (vI (psum (kB κ) k)), some (vI k)] [] w := by
  obtain ⟨⟨⟨c0, c1, c2, c3, c4, c5, c6, c7, c8, c9, c10, c11, c12, c13, c14⟩, d1, d2, d3, d4, d5, d6, d7, d8, d9, d10, d11, d12, d13, d14⟩, f9, f10, fl, fs, fd⟩ := id hM
  obtain ⟨s0, e0, eB, eT, e29, e30, e31⟩ := id hA
  have hc := ok.cnt okr
  have hm1 := okr.1
  intro n
  induction n with
  | zero =>
    intro k hk kr
    exact k_X7_lengthOf_4 (q1 := 71) (n2 := 32) (fun _ => k_X7_lengthOf_38 kr) (fun q => absurd q (by omega))
  | succ n ih =>
    intro k hk kr
    have ha := ok.at okr (k := k) (by omega)
    have hb := (eB k (by omega) (by omega)).1
    have hp : psum (kB κ) (k + 1) = psum (kB κ) k + kB κ k := rfl
    refine k_X7_lengthOf_4 (q1 := 71) (n2 := 32) (fun q => absurd q (by omega)) (fun _ => k_X7_lengthOf_14 (q1 := 71) (n2 := 32) (fun q => k_X7_lengthOf_32 ?_) (fun q => k_X7_lengthOf_30 ?_))
    · have h := ih (k + 1) (by omega) (by
        have e : lovF (kB κ) s k (n + 1) = lovF (kB κ) s (k + 1) n := if_neg (by omega)
        rw [← e]; exact kr)
      rw [hp, Int.natCast_add] at h
      rw [hb]
      exact h
    · have e : lovF (kB κ) s k (n + 1) = k := if_pos (by omega)
      rw [e] at kr
      exact kr
theorem sp_lengthOf {ρ : Rm} {κ : Kp} {s : Int} (hM : RoomM w ρ) (hA : CarA w 71 ρ κ) (okr : okR ρ) (ok : okK ρ κ) (hs : 0 ≤ s ∧ s ≤ 100) : SpP Γ m_X7_lengthOf [vR 63, vI s] w (lov κ s) :=
  i_X7_lengthOf (k_X7_lengthOf_0 (lengthOf_loop hM hA okr ok hs (kC κ) 0 (by omega) (rp rfl)))
theorem sp_isHookedM {a : Nat} {ρ : Rm} {κ : Kp} {i : Int} (hA : CarA w a ρ κ) (ok : okK ρ κ) (hi : 0 ≤ i ∧ i < 4) : SpP Γ m_X7_isHooked [vR a, vI i] w (bit (kH κ) i) := by
  obtain ⟨s0, e0, eB, eT, e29, e30, e31⟩ := id hA
  have hb := bit_r ok.2.2.2.2.1 hi
  refine i_X7_isHooked (k_X7_isHooked_0 (n1 := 32) (z2 := bit (kH κ) i) ?_ (rp rfl))
  rw [e29]
  exact sp_hasb ok.2.2.2.2.1 hi
theorem sp_dampBy {ρ : Rm} {m : Int} (hM : RoomM w ρ) (okr : okR ρ) (hm : 0 ≤ m ∧ m < 100000) : SpP Γ m_X7_dampBy [vR 63, vI m] w (dmp ρ m) := by
  obtain ⟨⟨⟨c0, c1, c2, c3, c4, c5, c6, c7, c8, c9, c10, c11, c12, c13, c14⟩, d1, d2, d3, d4, d5, d6, d7, d8, d9, d10, d11, d12, d13, d14⟩, f9, f10, fl, fs, fd⟩ := id hM
  have hd := okr.2.1
  refine i_X7_dampBy (k_X7_dampBy_0 (fun q => ?_) (fun q => k_X7_dampBy_7 (rp ?_)))
  · have h1 : 0 ≤ m.tmod (rS ρ 1) := Int.tmod_nonneg _ hm.1
    have h2 : m.tmod (rS ρ 1) < rS ρ 1 := Int.tmod_lt_of_pos _ (by omega)
    refine k_X7_dampBy_11 (q1 := 69) (n2 := 12) (rp ?_) (h8 := by rw [f10]; omega)
    rw [f10, fd _ h1 h2]
    unfold dmp; rw [if_neg (by omega)]
  · unfold dmp; rw [if_pos (by omega)]
theorem longFor_loop {Ret : Option Value → Wd → Prop} {ρ : Rm} {a b : Int} (hM : RoomM w ρ) (ok : okR ρ) (ha : 0 ≤ a) (hab : a + b ≤ rS ρ 0) (kr : Ret (some (vI (lenF ρ a b))) w) : ∀ (n i : Nat), (i : Int) + n = b → G Γ m_X7_longFor Ret 0 0 5 [some (vR 63), some (vI a), some (vI b), some (vI (mxF (rL ρ) a i)), some (vI (a + i))] [] w := by
  obtain ⟨⟨⟨c0, c1, c2, c3, c4, c5, c6, c7, c8, c9, c10, c11, c12, c13, c14⟩, d1, d2, d3, d4, d5, d6, d7, d8, d9, d10, d11, d12, d13, d14⟩, f9, f10, fl, fs, fd⟩ := id hM
  have hm := ok.1
  have e2 := fl 2 (by omega) (by omega)
  rw [show (2 : Int) + 2 = 4 by rfl] at e2
  intro n
  induction n with
  | zero =>
    intro i hi
    refine k_X7_longFor_5 (fun _ => ?_) (fun q => absurd q (by omega))
    refine k_X7_longFor_46 (q1 := 70) (n2 := 6) ?_
    rw [e2]
    have : i = b.toNat := by omega
    rw [this]
    exact kr
  | succ n ih =>
    intro i hi
    have hb := ok.len (a := a) (b := i) ha (by omega) (by omega)
    rw [Int.toNat_natCast] at hb
    have hl := (ok.2.2.2.2.2.2.2.2.1 (a + i) (by omega) (by omega)).1
    have hw := (fs (a + i) (by omega) (by omega)).1
    have q := ih (i + 1) (by omega)
    rw [Int.natCast_add, ← Int.add_assoc] at q
    refine k_X7_longFor_5 (fun q => absurd q (by omega)) (fun _ => ?_)
    refine k_X7_longFor_13 (q1 := 68) (n2 := 36) (fun q2 => k_X7_longFor_38 ?_) (fun q2 => k_X7_longFor_26 (q1 := 68) (n2 := 36) ?_)
    · have e : mxF (rL ρ) a (i + 1) = mxF (rL ρ) a i := by
        show max (mxF (rL ρ) a i) (rL ρ (a + i)) = _
        omega
      rw [e] at q
      exact q
    · have e : mxF (rL ρ) a (i + 1) = rL ρ (a + i) := by
        show max (mxF (rL ρ) a i) (rL ρ (a + i)) = _
        omega
      rw [e] at q
      rw [hw]
      exact q
theorem sp_longFor {ρ : Rm} {a b : Int} (hM : RoomM w ρ) (ok : okR ρ) (ha : 0 ≤ a) (hb : 0 ≤ b) (hab : a + b ≤ rS ρ 0) : SpP Γ m_X7_longFor [vR 63, vI a, vI b] w (lenF ρ a b) := by
  have h := longFor_loop (Γ := Γ) (Ret := fun v u => ∃ z, v = some (vI z) ∧ z = lenF ρ a b ∧ u = w) hM ok ha hab (rp rfl) b.toNat 0 (by omega)
  refine i_X7_longFor (k_X7_longFor_0 ?_)
  have e : a + ((0 : Nat) : Int) = a := by omega
  rw [e] at h
  exact h
theorem sp_gives {k g h : Int} (hk : 0 ≤ k ∧ k ≤ 3) (hg : 0 ≤ g ∧ g ≤ 100) (hh : 0 ≤ h ∧ h ≤ 100) : SpP Γ m_X7_givesBy [vI k, vI g, vI h] w (slk k g h) :=
  i_X7_givesBy (k_X7_givesBy_0 (fun q => k_X7_givesBy_10 (fun q2 => k_X7_givesBy_19 (fun q3 => k_X7_givesBy_30 (rp (by unfold slk; rw [if_neg q, if_neg q2, if_neg q3]))) (fun q3 => k_X7_givesBy_24 (rp (by unfold slk; rw [if_neg q, if_neg q2, if_pos q3, Int.mul_comm])))) (fun q2 => k_X7_givesBy_15 (rp (by unfold slk; rw [if_neg q, if_pos q2])))) (fun q => k_X7_givesBy_4 (rp (by unfold slk; rw [if_pos q]))))
theorem sp_tightBy {a : Nat} {ρ : Rm} {κ : Kp} {i f : Int} (hM : RoomM w ρ) (hA : CarA w a ρ κ) (okr : okR ρ) (ok : okK ρ κ) (hi : 0 ≤ i ∧ i < 4) (hf : 0 ≤ f ∧ f ≤ 20) : SpP Γ m_X7_tightBy [vR 63, vR a, vI i, vI f] w (tby ρ κ i f) := by
  obtain ⟨⟨⟨c0, c1, c2, c3, c4, c5, c6, c7, c8, c9, c10, c11, c12, c13, c14⟩, d1, d2, d3, d4, d5, d6, d7, d8, d9, d10, d11, d12, d13, d14⟩, f9, f10, fl, fs, fd⟩ := id hM
  obtain ⟨s0, e0, eB, eT, e29, e30, e31⟩ := id hA
  have hh := ok.2.2.2.2.1
  have hb := bcn_r _ (r16 hh)
  have ho := opp_r hi
  have h1 := (ok.2.2.2.1 (opp i) ho.1 ho.2)
  have h2 := slk_r (k := rS ρ 6) okr.2.2.2.2.2.2.2.1 hb.1
  have o6 := okr.2.2.2.2.2.2.1
  have o7 := okr.2.2.2.2.2.2.2.1
  have g4 := fl 4 (by omega) (by omega)
  have g5 := fl 5 (by omega) (by omega)
  rw [show (4 : Int) + 2 = 6 by rfl] at g4
  rw [show (5 : Int) + 2 = 7 by rfl] at g5
  have eTo := eT (opp i) ho.1 ho.2
  have hd := td2 h1.1
  refine i_X7_tightBy (k_X7_tightBy_0 (n1 := 32) (fun q => ?_) (fun q => ?_))
  · have hbit := bit_r hh ho
    refine k_X7_tightBy_9 (z1 := bit (kH κ) (opp i)) (sp_isHookedM hA ok ho) (fun q2 => ?_) (fun q2 => ?_)
    · have hz := h1.2.2 q2
      refine k_X7_tightBy_37 (q1 := 70) (n2 := 6) (n4 := 32) (z5 := bcn (kH κ)) (z6 := slk (rS ρ 6) (rS ρ 7) (bcn (kH κ))) ?_ ?_ (fun q3 => k_X7_tightBy_78 (rp ?_)) (fun q3 => k_X7_tightBy_74 (rp ?_))
      · rw [e29]; exact sp_bits
      · rw [g4, g5]; exact sp_gives o6 (by omega) (by omega)
      · unfold tby
        rw [if_neg (by omega), hz, show (0 : Int).tdiv 2 = 0 by rfl]
        omega
      · unfold tby
        rw [if_neg (by omega), hz, show (0 : Int).tdiv 2 = 0 by rfl]
        omega
    · have eTo' : wI w a (25 + (i + 2).tmod 4) = kT κ (opp i) := eTo
      have hi1 : 0 ≤ (i + 2).tmod 4 ∧ (i + 2).tmod 4 < 4 := ho
      refine k_X7_tightBy_25 (q2 := 70) (n1 := 32) (n3 := 6) (z5 := bcn (kH κ)) (z6 := slk (rS ρ 6) (rS ρ 7) (bcn (kH κ))) ?_ ?_ (fun q3 => k_X7_tightBy_78 (rp ?_)) (fun q3 => k_X7_tightBy_74 (rp ?_)) (h14 := by rw [eTo', hd]; omega)
      · rw [e29]; exact sp_bits
      · rw [g4, g5]; exact sp_gives o6 (by omega) (by omega)
      · rw [eTo'] at q3 ⊢
        unfold tby
        rw [if_neg (by omega)]
        omega
      · rw [eTo'] at q3
        unfold tby
        rw [if_neg (by omega)]
        omega
  · refine k_X7_tightBy_7 (rp ?_)
    unfold tby
    rw [if_pos (by omega)]
theorem sp_isFreeM1 {a : Nat} {ρ : Rm} {κ : Kp} {i : Int} (hA : CarA w a ρ κ) (ok : okK ρ κ) (hi : 0 ≤ i ∧ i < 4) (h : freeK κ i) : SpP Γ m_X7_isFree [vR a, vI i] w 1 := by
  obtain ⟨s0, e0, eB, eT, e29, e30, e31⟩ := id hA
  have hb := bit_or _ (r16 ok.2.2.2.2.1) _ (r16 ok.2.2.2.2.2.1) _ (r4 hi)
  refine i_X7_isFree (k_X7_isFree_0 (n1 := 32) (z2 := 0) ?_ (fun q => absurd rfl q) (fun _ => k_X7_isFree_16 (rp rfl)))
  rw [e29, e30]
  refine sp_has.cast ?_
  unfold freeK at h
  rw [hb, if_pos h]
  rfl
theorem sp_isFreeM0 {a : Nat} {ρ : Rm} {κ : Kp} {i : Int} (hA : CarA w a ρ κ) (ok : okK ρ κ) (hi : 0 ≤ i ∧ i < 4) (h : ¬ freeK κ i) : SpP Γ m_X7_isFree [vR a, vI i] w 0 := by
  obtain ⟨s0, e0, eB, eT, e29, e30, e31⟩ := id hA
  have hb := bit_or _ (r16 ok.2.2.2.2.1) _ (r16 ok.2.2.2.2.2.1) _ (r4 hi)
  refine i_X7_isFree (k_X7_isFree_0 (n1 := 32) (z2 := 1) ?_ (fun _ => k_X7_isFree_20 (rp rfl)) (fun q => absurd q (by decide)))
  rw [e29, e30]
  refine sp_has.cast ?_
  unfold freeK at h
  rw [hb, if_neg h]
  rfl
end
