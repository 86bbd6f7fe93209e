section
variable {Γ : Gm} {w : Wd}
/-- the same months, another answer for never: 99 here, 61 there -/
theorem mw_two {ρ : Rm} {m t : Int} : (mwF ρ m 99 t 0 61 = 99 ∧ mwF ρ m 61 t 0 61 = 61) ∨ (mwF ρ m 99 t 0 61 = mwF ρ m 61 t 0 61 ∧ 0 ≤ mwF ρ m 61 t 0 61 ∧ mwF ρ m 61 t 0 61 ≤ 60) := by
  rcases mwF_cases (ρ := ρ) (m := m) 61 t 0 with h | ⟨v, h1, h2, h3⟩
  · exact Or.inl ⟨h _, h _⟩
  · refine Or.inr ⟨(h3 _).trans (h3 _).symm, ?_⟩
    rw [h3]; omega
/-- 61 there is 99 here -/
def up9 (z : Int) : Int := if z = 61 then 99 else z
theorem fr72 {w u : Wd} (h : Fr (fun a => a = 72) w u) : Fr (fun a => 63 ≤ a) w u := h.mono (fun a ha => by omega)
theorem mw_up {ρ : Rm} {m t : Int} : mwF ρ m 99 t 0 61 = up9 (mwF ρ m 61 t 0 61) := by
  unfold up9
  rcases mw_two (ρ := ρ) (m := m) (t := t) with h | h
  · rw [h.1, h.2]; rfl
  · rw [h.1, if_neg (by omega)]
theorem m_waves {σ : Sg} (h : RM w σ) (ok : okS σ) : SpI Γ m_X7_waves [vR 63] w (MR w (fWaves σ, σ)) := by
  have hm9 := ok.2.2.2.1.2
  have key : ∀ (n k : Nat) (u : Wd) (o : Option Value), k + n = 4 → Fr (fun a => a = 72) w u → G Γ m_X7_waves (fun v u => ∃ z, v = some (vI z) ∧ MR w (fWaves σ, σ) z u) 0 0 5 [some (vR 63), some (vI (up9 (wvA (gR σ) (gK σ) k))), some (vI k), o] [] u := by
    intro n
    induction n with
    | zero =>
      intro k u o hk hF
      have : k = 4 := by omega
      subst this
      have hw := wvA_r (ρ := gR σ) (κ := gK σ) 4
      have hRu := h.scr hF (fun a ha => by omega)
      have hup : up9 (wvA (gR σ) (gK σ) 4) = 99 ∧ wvA (gR σ) (gK σ) 4 = 61 ∨ up9 (wvA (gR σ) (gK σ) 4) = wvA (gR σ) (gK σ) 4 ∧ wvA (gR σ) (gK σ) 4 ≤ 60 := by
        unfold up9
        by_cases e : wvA (gR σ) (gK σ) 4 = 61
        · left; rw [if_pos e]; exact ⟨rfl, e⟩
        · right; rw [if_neg e]; exact ⟨rfl, by omega⟩
      refine k_X7_waves_5 (fun _ => k_X7_waves_49 (fun q => k_X7_waves_60 ⟨_, rfl, ?_, hRu, fr72 hF⟩) (fun q => k_X7_waves_55 ⟨_, rfl, ?_, hRu, fr72 hF⟩)) (fun q => absurd q (by omega))
      · show _ = if _ then _ else _
        rw [if_pos (by omega)]; omega
      · show _ = if _ then _ else _
        rw [if_neg (by omega)]
    | succ n ih =>
      intro k u o hk hF
      have hRu := h.scr hF (fun a ha => by omega)
      obtain ⟨hM, -, hA, -⟩ := id hRu
      obtain ⟨⟨c0, c1, c2, c3, c4, c5, c6, c7, c8, c9, c10, c11, c12, c13, c14⟩, d1, d2, d3, d4, d5, d6, d7, d8, d9, d10, d11, d12, d13, d14⟩ := id hM.1
      have hw := wvA_r (ρ := gR σ) (κ := gK σ) k
      have hmw := mw61 (ρ := gR σ) (m := kM (gK σ)) (t := kT (gK σ) k)
      have hb := bit_r ok.k.2.2.2.2.1 (i := (k : Int)) (by omega)
      have hup : 0 ≤ up9 (wvA (gR σ) (gK σ) k) ∧ up9 (wvA (gR σ) (gK σ) k) ≤ 99 := by unfold up9; split <;> omega
      have hup2 : up9 (mwF (gR σ) (kM (gK σ)) 61 (kT (gK σ) k) 0 61) ≤ 99 ∧ 0 ≤ up9 (mwF (gR σ) (kM (gK σ)) 61 (kT (gK σ) k) 0 61) := by unfold up9; split <;> omega
      refine k_X7_waves_5 (fun q => absurd q (by omega)) (fun _ => k_X7_waves_10 (q1 := 71) (sp_isHookedM hA ok.k (by omega)) (fun q => k_X7_waves_29 (fun _ => k_X7_waves_41 ?_) (fun q2 => absurd q2 (by omega))) (fun q => k_X7_waves_21 (sp_wavesAt hM hA ok.r ok.k hm9 (by omega)) (fun z v hz => ?_)))
      · have e : wvA (gR σ) (gK σ) (k + 1) = wvA (gR σ) (gK σ) k := if_pos q
        have hh := ih (k + 1) u (some (vI 99)) (by omega) hF
        rw [Int.natCast_add, e] at hh
        exact hh
      · obtain ⟨rfl, hF2⟩ := hz
        rw [mw_up]
        have e : wvA (gR σ) (gK σ) (k + 1) = min (wvA (gR σ) (gK σ) k) (mwF (gR σ) (kM (gK σ)) 61 (kT (gK σ) k) 0 61) := if_neg q
        have hh := fun o => ih (k + 1) v o (by omega) (hF.trans hF2)
        simp only [Int.natCast_add, e] at hh
        refine k_X7_waves_26 (fun q2 => k_X7_waves_41 ?_) (fun q2 => k_X7_waves_37 ?_)
        · have e3 : up9 (min (wvA (gR σ) (gK σ) k) (mwF (gR σ) (kM (gK σ)) 61 (kT (gK σ) k) 0 61)) = up9 (wvA (gR σ) (gK σ) k) := by
            unfold up9 at q2 ⊢
            split at q2 <;> split at q2 <;> split <;> omega
          rw [e3] at hh
          exact hh _
        · have e3 : up9 (min (wvA (gR σ) (gK σ) k) (mwF (gR σ) (kM (gK σ)) 61 (kT (gK σ) k) 0 61)) = up9 (mwF (gR σ) (kM (gK σ)) 61 (kT (gK σ) k) 0 61) := by
            unfold up9 at q2 ⊢
            split at q2 <;> split at q2 <;> split <;> omega
          rw [e3] at hh
          exact hh _
  exact i_X7_waves (k_X7_waves_0 (key 4 0 w none rfl Fr.rfl))
def up9' (z : Int) : Int := if z = 61 then 99 else z
theorem m_longest {σ : Sg} (h : RM w σ) (ok : okS σ) : SpI Γ m_X7_longest [vR 63] w (MR w (fLongest σ, σ)) := by
  have hm9 := ok.2.2.2.1.2
  have key : ∀ (n k : Nat) (u : Wd) (o : Option Value), k + n = 4 → Fr (fun a => a = 72) w u → G Γ m_X7_longest (fun v u => ∃ z, v = some (vI z) ∧ MR w (fLongest σ, σ) z u) 0 0 7 [some (vR 63), some (vI (lgA (gR σ) (gK σ) k).1), some (vI (up9 (lgA (gR σ) (gK σ) k).2)), some (vI k), o] [] u := by
    intro n
    induction n with
    | zero =>
      intro k u o hk hF
      have : k = 4 := by omega
      subst this
      have hRu := h.scr hF (fun a ha => by omega)
      exact k_X7_longest_7 (fun _ => k_X7_longest_65 ⟨_, rfl, rfl, hRu, fr72 hF⟩) (fun q => absurd q (by omega))
    | succ n ih =>
      intro k u o hk hF
      have hRu := h.scr hF (fun a ha => by omega)
      obtain ⟨hM, -, hA, -⟩ := id hRu
      obtain ⟨⟨c0, c1, c2, c3, c4, c5, c6, c7, c8, c9, c10, c11, c12, c13, c14⟩, d1, d2, d3, d4, d5, d6, d7, d8, d9, d10, d11, d12, d13, d14⟩ := id hM.1
      have hw := lgA_r (ρ := gR σ) (κ := gK σ) k (by omega)
      have hmw := mw61 (ρ := gR σ) (m := kM (gK σ)) (t := kT (gK σ) k)
      have hb := bit_r ok.k.2.2.2.2.1 (i := (k : Int)) (by omega)
      have hup : -1 ≤ up9 (lgA (gR σ) (gK σ) k).2 ∧ up9 (lgA (gR σ) (gK σ) k).2 ≤ 99 := by unfold up9; split <;> omega
      have hup2 : up9 (mwF (gR σ) (kM (gK σ)) 61 (kT (gK σ) k) 0 61) ≤ 99 ∧ 0 ≤ up9 (mwF (gR σ) (kM (gK σ)) 61 (kT (gK σ) k) 0 61) := by unfold up9; split <;> omega
      refine k_X7_longest_7 (fun q => absurd q (by omega)) (fun _ => k_X7_longest_12 (q1 := 71) (sp_isHookedM hA ok.k (by omega)) (fun q => k_X7_longest_31 (fun _ => k_X7_longest_44 (fun _ => k_X7_longest_57 ?_) (fun q2 => absurd q2 (by omega))) (fun q2 => absurd q2 (by omega))) (fun q => k_X7_longest_23 (sp_wavesAt hM hA ok.r ok.k hm9 (by omega)) (fun z v hz => ?_)))
      · have e : lgA (gR σ) (gK σ) (k + 1) = lgA (gR σ) (gK σ) k := if_pos q
        have hh := ih (k + 1) u (some (vI (-1))) (by omega) hF
        rw [Int.natCast_add, e] at hh
        exact hh
      · obtain ⟨rfl, hF2⟩ := hz
        rw [mw_up]
        have hh := fun o => ih (k + 1) v o (by omega) (hF.trans hF2)
        simp only [Int.natCast_add] at hh
        have iff1 : up9 (mwF (gR σ) (kM (gK σ)) 61 (kT (gK σ) k) 0 61) ≤ up9 (lgA (gR σ) (gK σ) k).2 ↔ mwF (gR σ) (kM (gK σ)) 61 (kT (gK σ) k) 0 61 ≤ (lgA (gR σ) (gK σ) k).2 := by
          unfold up9
          split <;> split <;> omega
        refine k_X7_longest_28 (fun q2 => k_X7_longest_44 (fun _ => k_X7_longest_57 ?_) (fun q3 => absurd q2 q3)) (fun q2 => k_X7_longest_40 (fun q3 => absurd q3 q2) (fun _ => k_X7_longest_52 ?_))
        · have e : lgA (gR σ) (gK σ) (k + 1) = lgA (gR σ) (gK σ) k := (if_neg q).trans (if_pos (iff1.1 q2))
          rw [e] at hh
          exact hh _
        · have e : lgA (gR σ) (gK σ) (k + 1) = ((k : Int), mwF (gR σ) (kM (gK σ)) 61 (kT (gK σ) k) 0 61) := (if_neg q).trans (if_neg (fun q3 => q2 (iff1.2 q3)))
          rw [e] at hh
          exact hh _
  exact i_X7_longest (k_X7_longest_0 (key 4 0 w none rfl Fr.rfl))
theorem sp_isSo0 {v : Int × (Int → Int) × (Int → Int)} {kd g : Int} (hM : ModS w) (hS : SiM w v) (ok : okV v) (hk : 0 ≤ kd ∧ kd ≤ 3) (hg : 1 ≤ g ∧ g ≤ 9) : ∀ (n k : Nat) (o : Option Value), (k : Int) + n = v.1 → G Γ m_X7_isSo (fun r u => ∃ z, r = some (vI z) ∧ z = 0 ∧ u = w) 0 0 5 [some (vR 63), some (vI kd), some (vI g), some (vI 0), some (vI k), o] [] w := by
  obtain ⟨⟨c0, c1, c2, c3, c4, c5, c6, c7, c8, c9, c10, c11, c12, c13, c14⟩, d1, d2, d3, d4, d5, d6, d7, d8, d9, d10, d11, d12, d13, d14⟩ := id hM
  have e20 : wI w 63 20 = v.1 := hS.1
  have hsl := slk_r (k := kd) (g := g) (h := 1) hg (by omega)
  have on := ok.1
  intro n
  induction n with
  | zero =>
    intro k o hk
    exact k_X7_isSo_5 (fun _ => k_X7_isSo_79 (rp rfl)) (fun q => absurd q (by omega))
  | succ n ih =>
    intro k o hk2
    have hh := fun o => ih (k + 1) o (by omega)
    simp only [Int.natCast_add] at hh
    have f1 := hS.2 k (by omega) (by omega)
    have f2 := ok.2 k (by omega) (by omega)
    exact k_X7_isSo_5 (fun q => absurd q (by omega)) (fun _ => k_X7_isSo_14 (q1 := 75) (n2 := 12) (sp_gives hk (by omega) (by omega)) (fun q => k_X7_isSo_43 (fun _ => k_X7_isSo_71 (hh _)) (fun q => absurd rfl q)) (fun q => k_X7_isSo_39 (fun _ => k_X7_isSo_71 (hh _)) (fun q => absurd rfl q)))
theorem sp_isSo {v : Int × (Int → Int) × (Int → Int)} {kd g : Int} (hM : ModS w) (hS : SiM w v) (ok : okV v) (hk : 0 ≤ kd ∧ kd ≤ 3) (hg : 1 ≤ g ∧ g ≤ 9) : SpP Γ m_X7_isSo [vR 63, vI kd, vI g] w (so v kd g) := by
  obtain ⟨⟨c0, c1, c2, c3, c4, c5, c6, c7, c8, c9, c10, c11, c12, c13, c14⟩, d1, d2, d3, d4, d5, d6, d7, d8, d9, d10, d11, d12, d13, d14⟩ := id hM
  have e20 : wI w 63 20 = v.1 := hS.1
  have hsl := slk_r (k := kd) (g := g) (h := 1) hg (by omega)
  have on := ok.1
  have key : ∀ (n k : Nat) (o : Option Value), (k : Int) + n = v.1 → G Γ m_X7_isSo (fun r u => ∃ z, r = some (vI z) ∧ z = soN v.2.1 v.2.2 (1 - slk kd g 1) k n ∧ u = w) 0 0 5 [some (vR 63), some (vI kd), some (vI g), some (vI 1), some (vI k), o] [] w := by
    intro n
    induction n with
    | zero =>
      intro k o hk
      exact k_X7_isSo_5 (fun _ => k_X7_isSo_79 (rp rfl)) (fun q => absurd q (by omega))
    | succ n ih =>
      intro k o hk2
      have hh := fun o => ih (k + 1) o (by omega)
      have h0 := fun o => sp_isSo0 (Γ := Γ) hM hS ok hk hg n (k + 1) o (by omega)
      simp only [Int.natCast_add] at hh h0
      have f1 := hS.2 k (by omega) (by omega)
      have f2 := ok.2 k (by omega) (by omega)
      -- both branches meet here
      have mid : ∀ a5 : Int, a5 = max 0 (v.2.1 k + (1 - slk kd g 1)) → G Γ m_X7_isSo (fun r u => ∃ z, r = some (vI z) ∧ z = soN v.2.1 v.2.2 (1 - slk kd g 1) k (n + 1) ∧ u = w) 0 0 51 [some (vR 63), some (vI kd), some (vI g), some (vI 1), some (vI k), some (vI a5)] [] w := by
        intro a5 ha
        refine k_X7_isSo_51 (q1 := 75) (n2 := 12) (fun q => k_X7_isSo_71 ?_) (fun q => k_X7_isSo_67 ?_)
        · rw [f1.2] at q
          have e : soN v.2.1 v.2.2 (1 - slk kd g 1) k (n + 1) = 0 := if_neg (by omega)
          rw [e]
          exact h0 _
        · rw [f1.2] at q
          have e : soN v.2.1 v.2.2 (1 - slk kd g 1) k (n + 1) = soN v.2.1 v.2.2 (1 - slk kd g 1) (k + 1) n := if_pos (by omega)
          rw [e]
          exact hh _
      exact k_X7_isSo_5 (fun q => absurd q (by omega)) (fun _ => k_X7_isSo_14 (q1 := 75) (n2 := 12) (sp_gives hk (by omega) (by omega)) (fun q => k_X7_isSo_43 (fun q => absurd q (by decide)) (fun _ => mid _ (by omega))) (fun q => k_X7_isSo_39 (fun q => absurd q (by decide)) (fun _ => mid _ (by omega))))
  exact i_X7_isSo (k_X7_isSo_0 (key v.1.toNat 0 none (by omega)))
theorem zor0 : ∀ x : Nat, x < 1024 → zor x 0 = x := by decide +kernel
theorem m_may {σ : Sg} {k : Int} (h : RM w σ) (ok : okS σ) (hk : sm k) : SpI Γ m_X7_may [vR 63, vI k] w (MR w (fMay σ k, σ)) := by
  obtain ⟨hM, hT, hA, hU, hE, hV⟩ := id h
  obtain ⟨⟨c0, c1, c2, c3, c4, c5, c6, c7, c8, c9, c10, c11, c12, c13, c14⟩, d1, d2, d3, d4, d5, d6, d7, d8, d9, d10, d11, d12, d13, d14⟩ := id hM.1
  have g4 := hM.2.2.2.1 4 (by omega) (by omega)
  rw [show (4 : Int) + 2 = 6 by rfl] at g4
  have g5 := hM.2.2.2.1 5 (by omega) (by omega)
  rw [show (5 : Int) + 2 = 7 by rfl] at g5
  have o6 := ok.r.2.2.2.2.2.2.1
  have o7 := ok.r.2.2.2.2.2.2.2.1
  have okv := ok.2.2.2.2.2.2
  -- one turn
  have step : ∀ (p : Int → Int) (j : Nat) (x : Int) (n : Nat), j < 10 → 0 ≤ x ∧ x < 1024 → (p j = 0 ∨ p j = 1) → mayF p j x (n + 1) = mayF p (j + 1) (zor x (if p j = 0 then 0 else zshl 1 j)) n ∧ 0 ≤ zor x (if p j = 0 then 0 else zshl 1 j) ∧ zor x (if p j = 0 then 0 else zshl 1 j) < 1024 := by
    intro p j x n hj hx hp
    have hz := zor0 x.toNat (by omega)
    rw [show ((x.toNat : Nat) : Int) = x by omega] at hz
    have hr := zor_r j hj x.toNat (by omega)
    rw [show ((x.toNat : Nat) : Int) = x by omega] at hr
    by_cases e : p j = 0
    · rw [if_pos e, hz]
      refine ⟨?_, hx⟩
      show mayF p (j + 1) (if p j = 0 then x else _) n = _
      rw [if_pos e]
    · rw [if_neg e]
      refine ⟨?_, hr⟩
      show mayF p (j + 1) (if p j = 0 then x else _) n = _
      rw [if_neg e]
  unfold fMay
  by_cases h0 : k = 0
  · subst h0
    rw [if_pos rfl]
    have key : ∀ (n j : Nat) (x : Int) (o : Option Value), j + n = 4 → 0 ≤ x ∧ x < 1024 → G Γ m_X7_may (fun r u => ∃ z, r = some (vI z) ∧ MR w (mayF (fun v => so (gV σ) v (rS (gR σ) 7)) j x n, σ) z u) 0 0 15 [some (vR 63), some (vI 0), some (vI x), some (vI j), o] [] w := by
      intro n
      induction n with
      | zero =>
        intro j x o hj hx
        exact k_X7_may_15 (fun q => absurd rfl q) (fun _ => k_X7_may_20 (fun _ => k_X7_may_81 ⟨_, rfl, mr_same h⟩) (fun q => absurd q (by omega)))
      | succ n ih =>
        intro j x o hj hx
        have hz : so (gV σ) j (rS (gR σ) 7) = 0 ∨ so (gV σ) j (rS (gR σ) 7) = 1 := soN_01 _ _
        have hs := step (fun v => so (gV σ) v (rS (gR σ) 7)) j x n (by omega) hx hz
        rw [hs.1]
        have hh := fun o => ih (j + 1) _ o (by omega) hs.2
        simp only [Int.natCast_add] at hh
        refine k_X7_may_15 (fun q => absurd rfl q) (fun _ => k_X7_may_20 (fun q => absurd q (by omega)) (fun _ => k_X7_may_29 (fun q => absurd rfl q) (fun _ => k_X7_may_33 (q1 := 70) (n2 := 6) (z3 := so (gV σ) j (rS (gR σ) 7)) (by rw [g5]; exact sp_isSo hM.1 hV okv (by omega) o7) (fun q => k_X7_may_72 ?_) (fun q => k_X7_may_66 ?_))))
        · have h2 := hh (some (vI (so (gV σ) j (rS (gR σ) 7))))
          rw [if_pos q] at h2 ⊢
          exact h2
        · have h2 := hh (some (vI (so (gV σ) j (rS (gR σ) 7))))
          rw [if_neg q] at h2 ⊢
          exact h2
    exact i_X7_may (k_X7_may_0 (sp_in1 (by omega) hk (by omega) (by omega)) (fun _ => k_X7_may_11 (key 4 0 0 none rfl (by omega))) (fun q => absurd q (by decide)))
  · rw [if_neg h0]
    by_cases h1 : k = 1
    · subst h1
      rw [if_pos rfl]
      have key : ∀ (n j : Nat) (x : Int) (o : Option Value), j + n = 10 → 1 ≤ j → 0 ≤ x ∧ x < 1024 → G Γ m_X7_may (fun r u => ∃ z, r = some (vI z) ∧ MR w (mayF (fun v => so (gV σ) (rS (gR σ) 6) v) j x n, σ) z u) 0 0 15 [some (vR 63), some (vI 1), some (vI x), some (vI j), o] [] w := by
        intro n
        induction n with
        | zero =>
          intro j x o hj hj1 hx
          exact k_X7_may_15 (fun _ => k_X7_may_24 (fun _ => k_X7_may_81 ⟨_, rfl, mr_same h⟩) (fun q => absurd q (by omega))) (fun q => absurd q (by decide))
        | succ n ih =>
          intro j x o hj hj1 hx
          have hz : so (gV σ) (rS (gR σ) 6) j = 0 ∨ so (gV σ) (rS (gR σ) 6) j = 1 := soN_01 _ _
          have hs := step (fun v => so (gV σ) (rS (gR σ) 6) v) j x n (by omega) hx hz
          rw [hs.1]
          have hh := fun o => ih (j + 1) _ o (by omega) (by omega) hs.2
          simp only [Int.natCast_add] at hh
          refine k_X7_may_15 (fun _ => k_X7_may_24 (fun q => absurd q (by omega)) (fun _ => k_X7_may_29 (fun _ => k_X7_may_47 (q1 := 70) (n2 := 6) (z3 := so (gV σ) (rS (gR σ) 6) j) (by rw [g4]; exact sp_isSo hM.1 hV okv o6 (by omega)) (fun q => k_X7_may_72 ?_) (fun q => k_X7_may_66 ?_)) (fun q => absurd q (by decide)))) (fun q => absurd q (by decide))
          · have h2 := hh (some (vI (so (gV σ) (rS (gR σ) 6) j)))
            rw [if_pos q] at h2 ⊢
            exact h2
          · have h2 := hh (some (vI (so (gV σ) (rS (gR σ) 6) j)))
            rw [if_neg q] at h2 ⊢
            exact h2
      exact i_X7_may (k_X7_may_0 (sp_in1 (by omega) hk (by omega) (by omega)) (fun _ => k_X7_may_11 (key 9 1 0 none rfl (by omega) (by omega))) (fun q => absurd q (by decide)))
    · rw [if_neg h1]
      exact i_X7_may (k_X7_may_0 (sp_in0 (by omega) hk (by omega) (by omega)) (fun q => absurd rfl q) (fun _ => k_X7_may_9 ⟨_, rfl, mr_same h⟩))
end
