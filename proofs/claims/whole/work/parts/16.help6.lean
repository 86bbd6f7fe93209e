section
variable {Γ : Gm} {w : Wd}
theorem sp_isCoveredM1 {ρ : Rm} {κ : Kp} (hM : RoomM w ρ) (hA : CarA w 71 ρ κ) (okr : okR ρ) (ok : okK ρ κ) (h : covK κ = rS ρ 0) : SpP Γ m_X7_isCovered [vR 63] w 1 := by
  have c0 := hM.1.1.1
  have d8 := hM.1.2.2.2.2.2.2.2.2.1
  have f9 := hM.2.1
  have hc := ok.cnt okr
  exact i_X7_isCovered (k_X7_isCovered_0 (q1 := 71) (z2 := covK κ) (sp_coveredIn hA okr ok) (fun q => absurd (h.trans f9.symm) q) (fun _ => k_X7_isCovered_14 (rp rfl)))
theorem sp_isCoveredM0 {ρ : Rm} {κ : Kp} (hM : RoomM w ρ) (hA : CarA w 71 ρ κ) (okr : okR ρ) (ok : okK ρ κ) (h : covK κ ≠ rS ρ 0) : SpP Γ m_X7_isCovered [vR 63] w 0 := by
  have c0 := hM.1.1.1
  have d8 := hM.1.2.2.2.2.2.2.2.2.1
  have f9 := hM.2.1
  have hc := ok.cnt okr
  have hm := okr.1
  exact i_X7_isCovered (k_X7_isCovered_0 (q1 := 71) (z2 := covK κ) (sp_coveredIn hA okr ok) (fun _ => k_X7_isCovered_18 (rp rfl)) (fun q => absurd (q.trans f9) h))
theorem sp_kickM {a : Nat} {ρ : Rm} {κ : Kp} {i f : Int} (hM : RoomM w ρ) (hA : CarA w a ρ κ) (okr : okR ρ) (ok : okK ρ κ) (hi : 0 ≤ i ∧ i < 4) (hf : 0 ≤ f ∧ f ≤ 20) : SpV Γ m_X7_kick [vR 63, vR a, vI i, vI f] w (fun u => CarA u a ρ (kick ρ κ i f) ∧ Fr (fun q => q = a) w u) := by
  obtain ⟨⟨⟨c0, c1, c2, c3, c4, c5, c6, c7, c8, c9, c10, c11, c12, c13, c14⟩, d1, d2, d3, d4, d5, d6, d7, d8, d9, d10, d11, d12, d13, d14⟩, f9, f10, fl, fs, fd⟩ := id hM
  obtain ⟨s0, e0, eB, eT, e29, e30, e31⟩ := id hA
  have hc := ok.cnt okr
  have g3 := fl 3 (by omega) (by omega)
  rw [show (3 : Int) + 2 = 5 by rfl] at g3
  have o5 := okr.2.2.2.2.2.1
  have ht := tby_r okr ok hi hf
  refine i_X7_kick (k_X7_kick_0 (q2 := 70) (n3 := 6) (sp_tightBy hM hA okr ok hi hf) (fun q => ?_) (fun q => ?_))
  · refine k_X7_kick_35 (n1 := 32) ⟨rfl, ?_, (Fr.st (P := fun q => q = a) rfl).trans (Fr.st (P := fun q => q = a) rfl)⟩
    unfold kick
    rw [if_pos (by omega)]
    refine ⟨s0, ?_, fun k x y => ?_, fun j x y => ?_, ?_, ?_, ?_⟩
    · rw [wI_skip (by omega), wI_skip (by omega)]; exact e0
    · have y2 : k < (kC κ : Int) := y
      rw [wI_skip (by omega), wI_skip (by omega), wI_skip (by omega), wI_skip (by omega)]; exact eB k x y
    · show _ = (if j = i then tby ρ κ i f else kT κ j)
      by_cases e : j = i
      · subst e; rw [wI_hit, if_pos rfl]
      · rw [wI_skip (by omega), wI_skip (by omega), if_neg e]; exact eT j x y
    · rw [wI_skip (by omega), wI_hit, e29]; rfl
    · rw [wI_skip (by omega), wI_skip (by omega)]; exact e30
    · rw [wI_skip (by omega), wI_skip (by omega)]; exact e31
  · refine k_X7_kick_20 (n1 := 32) ⟨rfl, ?_, Fr.st (P := fun q => q = a) rfl⟩
    unfold kick
    rw [if_neg (by omega)]
    refine ⟨s0, ?_, fun k x y => ?_, fun j x y => ?_, ?_, ?_, ?_⟩
    · rw [wI_skip (by omega)]; exact e0
    · have y2 : k < (kC κ : Int) := y
      rw [wI_skip (by omega), wI_skip (by omega)]; exact eB k x y
    · rw [wI_skip (by omega)]; exact eT j x y
    · rw [wI_skip (by omega)]; exact e29
    · rw [wI_hit, e30]; rfl
    · rw [wI_skip (by omega)]; exact e31
theorem sp_loosen {a : Nat} {ρ : Rm} {κ : Kp} {i : Int} (hA : CarA w a ρ κ) (okr : okR ρ) (ok : okK ρ κ) (hi : 0 ≤ i ∧ i < 4) : SpV Γ m_X7_loosen [vR a, vI i] w (fun u => CarA u a ρ (goK κ i) ∧ Fr (fun q => q = a) w u) := by
  obtain ⟨s0, e0, eB, eT, e29, e30, e31⟩ := id hA
  have hc := ok.cnt okr
  refine i_X7_loosen (k_X7_loosen_0 (n1 := 32) ⟨rfl, ?_, (Fr.st (P := fun q => q = a) rfl).trans (Fr.st (P := fun q => q = a) rfl)⟩)
  refine ⟨s0, ?_, fun k x y => ?_, fun j x y => ?_, ?_, ?_, ?_⟩
  · rw [wI_skip (by omega), wI_skip (by omega)]; exact e0
  · have y2 : k < (kC κ : Int) := y
    rw [wI_skip (by omega), wI_skip (by omega), wI_skip (by omega), wI_skip (by omega)]; exact eB k x y
  · show _ = (if j = i then 0 else kT κ j)
    by_cases e : j = i
    · subst e; rw [wI_hit, if_pos rfl]
    · rw [wI_skip (by omega), wI_skip (by omega), if_neg e]; exact eT j x y
  · rw [wI_skip (by omega), wI_hit, e29]; rfl
  · rw [wI_skip (by omega), wI_skip (by omega)]; exact e30
  · rw [wI_skip (by omega), wI_skip (by omega)]; exact e31
theorem passM_loop {Q : Option Value → Wd → Prop} {a : Nat} {ρ : Rm} {κ : Kp} {w0 : Wd} (okr : okR ρ) (ok : okK ρ κ) (hQ : ∀ u, CarA u a ρ (monK ρ κ) → Fr (fun q => q = a) w0 u → Q none u) : ∀ (n k : Nat) (w : Wd) (o0 : Option Value), k + n = 4 → CarA w a ρ (kC κ, kB κ, (fun i => if i < k then max 0 (kT κ i - lss ρ (kM κ)) else kT κ i), kH κ, kN κ, kM κ) → Fr (fun q => q = a) w0 w → G Γ m_X7_passMonth Q 0 0 13 [o0, some (vR a), some (vI (lss ρ (kM κ))), some (vI k)] [] w := by
  have hl := lss_r okr (m := kM κ) ok.2.2.2.2.2.2.1
  have hc := ok.cnt okr
  intro n
  induction n with
  | zero =>
    intro k w o0 hk hA hF
    obtain ⟨s0, e0, eB, eT, e29, e30, e31⟩ := id hA
    refine k_X7_passMonth_13 (fun _ => k_X7_passMonth_52 (n1 := 32) (hQ _ ?_ (hF.trans (Fr.st rfl)))) (fun q => absurd q (by omega))
    refine ⟨s0, ?_, fun k x y => ?_, fun j x y => ?_, ?_, ?_, ?_⟩
    · rw [wI_skip (by omega)]; exact e0
    · have y2 : k < (kC κ : Int) := y
      rw [wI_skip (by omega), wI_skip (by omega)]; exact eB k x y
    · rw [wI_skip (by omega), eT j x y]
      show (if j < (k : Int) then _ else _) = _
      rw [if_pos (by omega)]
      rfl
    · rw [wI_skip (by omega)]; exact e29
    · rw [wI_skip (by omega)]; exact e30
    · rw [wI_hit, e31]; rfl
  | succ n ih =>
    intro k w o0 hk hA hF
    obtain ⟨s0, e0, eB, eT, e29, e30, e31⟩ := id hA
    have ht := ok.2.2.2.1 k (by omega) (by omega)
    have eTk : wI w a (25 + k) = kT κ k := by
      rw [eT k (by omega) (by omega)]
      show (if (k : Int) < (k : Int) then _ else _) = _
      rw [if_neg (by omega)]
    have nx : ∀ v : Int, v = max 0 (kT κ k - lss ρ (kM κ)) → G Γ m_X7_passMonth Q 0 0 13 [o0, some (vR a), some (vI (lss ρ (kM κ))), some (vI ((k : Int) + 1))] [] (stI w a (25 + k) v) := by
      intro v hv
      have h := ih (k + 1) (stI w a (25 + k) v) o0 (by omega) ⟨s0, by rw [wI_skip (by omega)]; exact e0, fun j x y => by
        have y2 : j < (kC κ : Int) := y
        rw [wI_skip (by omega), wI_skip (by omega)]; exact eB j x y, fun j x y => by
        show _ = (if j < ((k + 1 : Nat) : Int) then max 0 (kT κ j - lss ρ (kM κ)) else kT κ j)
        by_cases e : j = k
        · subst e
          rw [wI_hit, if_pos (by omega)]; exact hv
        · rw [wI_skip (by omega), eT j x y]
          show (if j < (k : Int) then _ else _) = _
          by_cases e1 : j < (k : Int)
          · rw [if_pos e1, if_pos (by omega)]
          · rw [if_neg e1, if_neg (by omega)], by rw [wI_skip (by omega)]; exact e29, by rw [wI_skip (by omega)]; exact e30, by rw [wI_skip (by omega)]; exact e31⟩ (hF.trans (Fr.st rfl))
      rw [Int.natCast_add] at h
      exact h
    refine k_X7_passMonth_13 (fun q => absurd q (by omega)) (fun _ => k_X7_passMonth_18 (n1 := 32) (fun q => k_X7_passMonth_44 (n1 := 32) (nx _ (by omega))) (fun q => k_X7_passMonth_33 (n1 := 32) (n2 := 32) (nx _ (by omega))))
theorem sp_passM {a : Nat} {ρ : Rm} {κ : Kp} (hM : RoomM w ρ) (hA : CarA w a ρ κ) (okr : okR ρ) (ok : okK ρ κ) : SpV Γ m_X7_passMonth [vR 63, vR a] w (fun u => CarA u a ρ (monK ρ κ) ∧ Fr (fun q => q = a) w u) := by
  have c0 := hM.1.1.1
  obtain ⟨s0, e0, eB, eT, e29, e30, e31⟩ := id hA
  have hm := ok.2.2.2.2.2.2
  have hd := dmp_r okr (m := kM κ) hm.1
  refine i_X7_passMonth (k_X7_passMonth_0 (n1 := 32) (z2 := dmp ρ (kM κ)) ?_ (passM_loop okr ok (fun u h1 h2 => ⟨rfl, h1, h2⟩) 4 0 w _ rfl ?_ Fr.rfl))
  · rw [e31]; exact sp_dampBy hM okr (by omega)
  · refine ⟨s0, e0, eB, fun j x y => ?_, e29, e30, e31⟩
    rw [eT j x y]
    show _ = (if j < ((0 : Nat) : Int) then _ else kT κ j)
    rw [if_neg (by omega)]
theorem bring_loop {Q : Option Value → Wd → Prop} {a b na nb : Nat} {i j n : Int} {w0 : Wd} (ha : sh w0 a = some (.inl (0, na))) (hb : sh w0 b = some (.inl (0, nb))) (hna : na < 1000) (hnb : nb < 1000) (hi : 0 ≤ i ∧ i + n ≤ na) (hj : 0 ≤ j ∧ j + n ≤ nb) (hd : a ≠ b ∨ j ≤ i) (hQ : ∀ u, Fr (fun q => q = b) w0 u → (∀ k, wI u b k = if j ≤ k ∧ k < j + n then wI w0 a (i + (k - j)) else wI w0 b k) → Q none u) : ∀ (m t : Nat) (w : Wd), (t : Int) + m = n → Fr (fun q => q = b) w0 w → (∀ k, wI w b k = if j ≤ k ∧ k < j + t then wI w0 a (i + (k - j)) else wI w0 b k) → G Γ m_X7_bring Q 0 0 3 [some (vR a), some (vI i), some (vR b), some (vI j), some (vI n), some (vI t)] [] w := by
  intro m
  induction m with
  | zero =>
    intro t w ht hF hv
    have : (t : Int) = n := by omega
    rw [this] at hv ⊢
    exact k_X7_bring_3 (fun _ => k_X7_bring_28 (hQ w hF hv)) (fun q => absurd q (by omega))
  | succ m ih =>
    intro t w ht hF hv
    have h1 : sh w a = some (.inl (0, na)) := by rw [hF.sh]; exact ha
    have h2 : sh w b = some (.inl (0, nb)) := by rw [hF.sh]; exact hb
    have hr : wI w a (i + t) = wI w0 a (i + t) := by
      by_cases e : a = b
      · subst e
        rw [hv, if_neg]
        rcases hd with hd | hd
        · exact absurd rfl hd
        · omega
      · exact hF.2.1 a e _
    refine k_X7_bring_3 (fun q => absurd q (by omega)) (fun _ => k_X7_bring_10 (n1 := na) (n2 := nb) ?_)
    have h := ih (t + 1) (stI w b (j + t) (wI w a (i + t))) (by omega) (hF.trans (Fr.st rfl)) (fun k => by
      by_cases e : k = j + t
      · subst e
        rw [wI_hit, hr, if_pos (by omega)]
        congr 1
        omega
      · rw [wI_skip e, hv]
        by_cases e1 : j ≤ k ∧ k < j + t
        · rw [if_pos e1, if_pos (by omega)]
        · rw [if_neg e1, if_neg (by omega)])
    rw [Int.natCast_add] at h
    exact h
theorem sp_bring {a b na nb : Nat} {i j n : Int} (ha : sh w a = some (.inl (0, na))) (hb : sh w b = some (.inl (0, nb))) (hna : na < 1000) (hnb : nb < 1000) (hn : 0 ≤ n) (hi : 0 ≤ i ∧ i + n ≤ na) (hj : 0 ≤ j ∧ j + n ≤ nb) (hd : a ≠ b ∨ j ≤ i) : SpV Γ m_X7_bring [vR a, vI i, vR b, vI j, vI n] w (fun u => Fr (fun q => q = b) w u ∧ ∀ k, wI u b k = if j ≤ k ∧ k < j + n then wI w a (i + (k - j)) else wI w b k) :=
  i_X7_bring (k_X7_bring_0 (bring_loop ha hb hna hnb hi hj hd (fun u h1 h2 => ⟨rfl, h1, h2⟩) n.toNat 0 w (by omega) Fr.rfl (fun k => by rw [if_neg (by omega)])))
theorem sp_begin {ρ : Rm} {κ : Kp} (hS : ModS w) (hA : CarA w 71 ρ κ) (okr : okR ρ) (ok : okK ρ κ) : SpV Γ m_X7_begin [vR 63] w (fun u => CarA u 72 ρ κ ∧ Fr (fun q => q = 72) w u) := by
  obtain ⟨⟨c0, c1, c2, c3, c4, c5, c6, c7, c8, c9, c10, c11, c12, c13, c14⟩, d1, d2, d3, d4, d5, d6, d7, d8, d9, d10, d11, d12, d13, d14⟩ := id hS
  refine i_X7_begin (k_X7_begin_0 (q1 := 71) (q2 := 72) (sp_bring c8 c9 (by omega) (by omega) (by omega) (by omega) (by omega) (Or.inl (by decide))) (fun u hu => k_X7_begin_15 ⟨rfl, ?_, hu.1⟩))
  refine CarM.toA (by rw [hu.1.sh]; exact c9) (CarM.mv (a := 71) (o := 0) okr ok hA.toM (fun k x y => ?_))
  rw [hu.2, if_pos (by omega)]
  congr 1
  omega
theorem leastKickM_loop {Ret : Option Value → Wd → Prop} {a : Nat} {ρ : Rm} {κ : Kp} {i t : Int} (hM : RoomM w ρ) (hA : CarA w a ρ κ) (okr : okR ρ) (ok : okK ρ κ) (hi : 0 ≤ i ∧ i < 4) (ht : 0 ≤ t ∧ t ≤ 30) : ∀ (n : Nat) (f : Int) (o5 : Option Value), 0 ≤ f → f + n = 21 → Ret (some (vI (lkF ρ κ i t f n))) w → G Γ m_X7_leastKick Ret 0 0 3 [some (vR 63), some (vR a), some (vI i), some (vI t), some (vI f), o5] [] w := by
  have c0 := hM.1.1.1
  have d7 := hM.1.2.2.2.2.2.2.2.1
  have c7 := hM.1.1.2.2.2.2.2.2.2.1
  have g3 := hM.2.2.2.1 3 (by omega) (by omega)
  rw [show (3 : Int) + 2 = 5 by rfl] at g3
  have o5 := okr.2.2.2.2.2.1
  intro n
  induction n with
  | zero =>
    intro f o _ hf kr
    exact k_X7_leastKick_3 (fun _ => k_X7_leastKick_46 kr) (fun q => absurd q (by omega))
  | succ n ih =>
    intro f o hf0 hf kr
    have hb := tby_r okr ok hi (f := f) (by omega)
    have kn : ¬ (t ≤ tby ρ κ i f ∧ tby ρ κ i f ≤ rS ρ 5) → G Γ m_X7_leastKick Ret 0 0 40 [some (vR 63), some (vR a), some (vI i), some (vI t), some (vI f), some (vI (tby ρ κ i f))] [] w := by
      intro q
      refine k_X7_leastKick_40 (ih (f + 1) _ (by omega) (by omega) ?_)
      have e : lkF ρ κ i t f (n + 1) = lkF ρ κ i t (f + 1) n := if_neg q
      rw [← e]
      exact kr
    refine k_X7_leastKick_3 (fun q => absurd q (by omega)) (fun _ => k_X7_leastKick_10 (sp_tightBy hM hA okr ok hi (by omega)) (fun q => kn (by omega)) (fun q => k_X7_leastKick_26 (q1 := 70) (n2 := 6) (fun q2 => kn (by omega)) (fun q2 => k_X7_leastKick_37 ?_)))
    have e : lkF ρ κ i t f (n + 1) = f := if_pos (by omega)
    rw [e] at kr
    exact kr
theorem sp_leastKickM {a : Nat} {ρ : Rm} {κ : Kp} {i t : Int} (hM : RoomM w ρ) (hA : CarA w a ρ κ) (okr : okR ρ) (ok : okK ρ κ) (hi : 0 ≤ i ∧ i < 4) (ht : 0 ≤ t ∧ t ≤ 30) : SpP Γ m_X7_leastKick [vR 63, vR a, vI i, vI t] w (lk ρ κ i t) :=
  i_X7_leastKick (k_X7_leastKick_0 (leastKickM_loop hM hA okr ok hi ht 21 0 _ (by omega) (by omega) (rp rfl)))
def wavF (ρ : Rm) (i : Int) : Kp → Int → Nat → Int
  | _, _, 0 => 99
  | κ, a, n + 1 => if kT κ i < 2 then a else wavF ρ i (monK ρ κ) (a + 1) n
theorem wavesAt_loop {Q : Option Value → Wd → Prop} {ρ : Rm} {i : Int} {w0 : Wd} {v : Int} (hM0 : RoomM w0 ρ) (okr : okR ρ) (hi : 0 ≤ i ∧ i < 4) (hQ : ∀ u, Fr (fun q => q = 72) w0 u → Q (some (vI v)) u) : ∀ (n : Nat) (a : Int) (κ : Kp) (w : Wd), 0 ≤ a → a + n = 61 → okK ρ κ → kM κ ≤ 2000 + a → CarA w 72 ρ κ → Fr (fun q => q = 72) w0 w → wavF ρ i κ a n = v → G Γ m_X7_wavesAt Q 0 0 6 [some (vR 63), some (vI i), some (vI a)] [] w := by
  intro n
  induction n with
  | zero =>
    intro a κ w h0 ha ok hm hA hF hv
    subst hv
    exact k_X7_wavesAt_6 (fun _ => k_X7_wavesAt_41 (hQ w hF)) (fun q => absurd q (by omega))
  | succ n ih =>
    intro a κ w h0 ha ok hm hA hF hv
    have hM := hM0.fr' hF (by decide)
    have c0 := hM.1.1.1
    have d9 := hM.1.2.2.2.2.2.2.2.2.2.1
    have s0 := hA.1
    have eT := hA.2.2.2.1 i hi.1 hi.2
    have ht := ok.2.2.2.1 i hi.1 hi.2
    refine k_X7_wavesAt_6 (fun q => absurd q (by omega)) (fun _ => k_X7_wavesAt_12 (q1 := 72) (n2 := 32) (fun q => k_X7_wavesAt_27 (q1 := 72) (sp_passM hM hA okr ok) (fun u hu => k_X7_wavesAt_35 (ih (a + 1) (monK ρ κ) u (by omega) (by omega) (mon_ok okr ok (by omega)) ?_ hu.1 (hF.trans hu.2) ?_))) (fun q => k_X7_wavesAt_25 ?_))
    · show kM κ + 1 ≤ _
      omega
    · have e : wavF ρ i κ a (n + 1) = wavF ρ i (monK ρ κ) (a + 1) n := if_neg (by omega)
      rw [← e]; exact hv
    · have e : wavF ρ i κ a (n + 1) = a := if_pos (by omega)
      rw [e] at hv
      subst hv
      exact hQ w hF
theorem mwF_low {ρ : Rm} {m e t t' a : Int} (h : t < 2) (h' : t' < 2) : ∀ n : Nat, mwF ρ m e t a n = mwF ρ m e t' a n
  | 0 => rfl
  | n + 1 => (if_pos h : mwF ρ m e t a (n + 1) = a).trans (if_pos h' : mwF ρ m e t' a (n + 1) = a).symm
theorem wav_mw {ρ : Rm} {i : Int} : ∀ (n : Nat) (a m : Int) (κ : Kp), kM κ = m + a → wavF ρ i κ a n = mwF ρ m 99 (kT κ i) a n := by
  intro n
  induction n with
  | zero => intro a m κ _; rfl
  | succ n ih =>
    intro a m κ hm
    by_cases h : kT κ i < 2
    · exact (if_pos h : wavF ρ i κ a (n + 1) = a).trans (if_pos h : mwF ρ m 99 (kT κ i) a (n + 1) = a).symm
    · have e1 : wavF ρ i κ a (n + 1) = wavF ρ i (monK ρ κ) (a + 1) n := if_neg h
      have e2 : mwF ρ m 99 (kT κ i) a (n + 1) = mwF ρ m 99 (kT κ i - lss ρ (m + a)) (a + 1) n := if_neg h
      rw [e1, e2, ih (a + 1) m (monK ρ κ) (by show kM κ + 1 = _; omega)]
      have e3 : kT (monK ρ κ) i = max 0 (kT κ i - lss ρ (kM κ)) := rfl
      rw [e3, hm]
      by_cases h2 : kT κ i - lss ρ (m + a) < 0
      · exact mwF_low (by omega) (by omega) n
      · rw [show max 0 (kT κ i - lss ρ (m + a)) = kT κ i - lss ρ (m + a) by omega]
theorem mwF_cases {ρ : Rm} {m : Int} : ∀ (n : Nat) (t a : Int), (∀ e, mwF ρ m e t a n = e) ∨ ∃ v, a ≤ v ∧ v < a + n ∧ ∀ e, mwF ρ m e t a n = v
  | 0, t, a => Or.inl (fun _ => rfl)
  | n + 1, t, a => by
    by_cases h : t < 2
    · exact Or.inr ⟨a, by omega, by omega, fun e => if_pos h⟩
    · rcases mwF_cases n (t - lss ρ (m + a)) (a + 1) with q | ⟨v, q1, q2, q3⟩
      · exact Or.inl (fun e => (if_neg h : mwF ρ m e t a (n + 1) = _).trans (q e))
      · exact Or.inr ⟨v, by omega, by omega, fun e => (if_neg h : mwF ρ m e t a (n + 1) = _).trans (q3 e)⟩
theorem sp_wavesAt {ρ : Rm} {κ : Kp} {i : Int} (hM : RoomM w ρ) (hA : CarA w 71 ρ κ) (okr : okR ρ) (ok : okK ρ κ) (hm : kM κ ≤ 999) (hi : 0 ≤ i ∧ i < 4) : SpI Γ m_X7_wavesAt [vR 63, vI i] w (fun z u => z = mwF ρ (kM κ) 99 (kT κ i) 0 61 ∧ Fr (fun q => q = 72) w u) := by
  have c0 := hM.1.1.1
  refine i_X7_wavesAt (k_X7_wavesAt_0 (sp_begin hM.1 hA okr ok) (fun u hu => k_X7_wavesAt_4 (wavesAt_loop (v := wavF ρ i κ 0 61) hM okr hi (fun v hv => ⟨_, rfl, wav_mw 61 0 (kM κ) κ (by omega), hv⟩) 61 0 κ u (by omega) (by omega) ok (by omega) hu.1 hu.2 rfl)))
end
