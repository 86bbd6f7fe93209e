section
variable {Γ : Gm} {w : Wd}
theorem m_hall {σ : Sg} {a b : Int} (h : RM w σ) (ok : okS σ) (ha : sm a) (hb : sm b) : SpI Γ m_X7_hall [vR 63, vI a, vI b] w (MR w (fHall σ a b, σ)) := by
  obtain ⟨hM, hT, hA, hU, hE, hV⟩ := id h
  obtain ⟨⟨c0, c1, c2, c3, c4, c5, c6, c7, c8, c9, c10, c11, c12, c13, c14⟩, d1, d2, d3, d4, d5, d6, d7, d8, d9, d10, d11, d12, d13, d14⟩ := id hM.1
  obtain ⟨-, a0, aB, aT, aH, aN, aM⟩ := id hA
  have a0 : wI w 71 0 = kC (gK σ) := a0
  have g0 := hM.2.2.2.1 0 (by omega) (by omega)
  rw [show (0 : Int) + 2 = 2 by rfl] at g0
  have o2 := ok.r.2.2.1
  have hro := rollK_r ok.r ok.k
  have hcn := ok.k.cnt ok.r
  unfold fHall
  by_cases h1 : 1 ≤ a ∧ a ≤ 6
  · refine i_X7_hall (k_X7_hall_0 (sp_in1 h1 ha (by omega) (by omega)) (fun q => absurd q (by decide)) (fun _ => ?_))
    by_cases h2 : 1 ≤ b ∧ b ≤ 40
    · rw [if_pos ⟨h1, h2⟩]
      refine k_X7_hall_10 (sp_in1 h2 hb (by omega) (by omega)) (fun _ => k_X7_hall_22 ?_) (fun q => absurd q (by decide))
      have key : ∀ n k : Nat, k + n = kC (gK σ) → G Γ m_X7_hall (fun v u => ∃ z, v = some (vI z) ∧ MR w (if hrF (gR σ) (gK σ) a b k n = 0 then (if a ≤ rS (gR σ) 2 ∧ b ≤ rollK (gR σ) (gK σ) then 2 else 0) else 1, σ) z u) 0 0 24 [some (vR 63), some (vI a), some (vI b), some (vI k)] [] w := by
        intro n
        induction n with
        | zero =>
          intro k hk
          have e0 : hrF (gR σ) (gK σ) a b k 0 = 0 := rfl
          rw [if_pos e0]
          refine k_X7_hall_24 (q1 := 71) (n2 := 32) (fun _ => k_X7_hall_74 (q1 := 70) (n2 := 6) (fun q => k_X7_hall_100 ?_) (fun q => k_X7_hall_84 (q1 := 71) (sp_rollIn hM hA ok.r ok.k) (fun q2 => k_X7_hall_100 ?_) (fun q2 => k_X7_hall_96 ?_))) (fun q => absurd q (by omega))
          · rw [if_neg (fun q3 => by have := q3.1; omega)]; exact ⟨_, rfl, mr_same h⟩
          · rw [if_neg (fun q3 => by have := q3.2; omega)]; exact ⟨_, rfl, mr_same h⟩
          · rw [if_pos (by omega)]; exact ⟨_, rfl, mr_same h⟩
        | succ n ih =>
          intro k hk
          have hb2 := aB k (by omega) (by omega)
          have hat := ok.k.at ok.r (k := k) (by omega)
          have hh := ih (k + 1) (by omega)
          rw [Int.natCast_add] at hh
          have nx : ¬ (a ≤ rS (gR σ) 2 - kB (gK σ) k ∧ b ≤ lenK (gR σ) (gK σ) k) → G Γ m_X7_hall (fun v u => ∃ z, v = some (vI z) ∧ MR w (if hrF (gR σ) (gK σ) a b k (n + 1) = 0 then (if a ≤ rS (gR σ) 2 ∧ b ≤ rollK (gR σ) (gK σ) then 2 else 0) else 1, σ) z u) 0 0 68 [some (vR 63), some (vI a), some (vI b), some (vI k)] [] w := by
            intro q
            have e : hrF (gR σ) (gK σ) a b k (n + 1) = hrF (gR σ) (gK σ) a b (k + 1) n := if_neg q
            rw [e]
            exact k_X7_hall_68 hh
          refine k_X7_hall_24 (q1 := 71) (n2 := 32) (fun q => absurd q (by omega)) (fun _ => k_X7_hall_34 (q1 := 70) (n2 := 6) (q3 := 71) (n4 := 32) (fun q => nx (by omega)) (fun q => k_X7_hall_53 (q1 := 71) (n2 := 32) (fun q2 => nx (by omega)) (fun q2 => k_X7_hall_66 ?_)))
          have e : hrF (gR σ) (gK σ) a b k (n + 1) = 1 := if_pos (by omega)
          rw [e, if_neg (by decide)]
          exact ⟨_, rfl, mr_same h⟩
      exact key (kC (gK σ)) 0 (by omega)
    · rw [if_neg (fun q => h2 q.2)]
      exact k_X7_hall_10 (sp_in0 h2 hb (by omega) (by omega)) (fun q => absurd rfl q) (fun _ => k_X7_hall_20 ⟨_, rfl, mr_same h⟩)
  · rw [if_neg (fun q => h1 q.1)]
    exact i_X7_hall (k_X7_hall_0 (sp_in0 h1 ha (by omega) (by omega)) (fun _ => k_X7_hall_20 ⟨_, rfl, mr_same h⟩) (fun q => absurd rfl q))
theorem m_left {σ : Sg} {k : Int} (h : RM w σ) (ok : okS σ) (hk : sm k) : SpI Γ m_X7_left [vR 63, vI k] w (MR w (fLeft σ k, σ)) := by
  obtain ⟨hM, hT, hA, hU, hE, hV⟩ := id h
  obtain ⟨⟨c0, c1, c2, c3, c4, c5, c6, c7, c8, c9, c10, c11, c12, c13, c14⟩, d1, d2, d3, d4, d5, d6, d7, d8, d9, d10, d11, d12, d13, d14⟩ := id hM.1
  obtain ⟨-, a0, aB, aT, aH, aN, aM⟩ := id hA
  have a0 : wI w 71 0 = kC (gK σ) := a0
  have g0 := hM.2.2.2.1 0 (by omega) (by omega)
  rw [show (0 : Int) + 2 = 2 by rfl] at g0
  have hcn := ok.k.cnt ok.r
  unfold fLeft
  by_cases h1 : 0 ≤ k ∧ k ≤ 1
  · refine i_X7_left (k_X7_left_0 (sp_in1 h1 hk (by omega) (by omega)) (fun _ => k_X7_left_11 ?_) (fun q => absurd q (by decide)))
    have key : ∀ n j : Nat, j + n = kC (gK σ) → G Γ m_X7_left (fun v u => ∃ z, v = some (vI z) ∧ MR w (if k = 0 then area (gR σ) (gK σ) else if k = 1 then rS (gR σ) 2 * rollK (gR σ) (gK σ) else -1, σ) z u) 0 0 15 [some (vR 63), some (vI k), some (vI (psum (fun k => (rS (gR σ) 2 - kB (gK σ) k) * lenK (gR σ) (gK σ) k) j)), some (vI j)] [] w := by
      intro n
      induction n with
      | zero =>
        intro j hj
        have : j = kC (gK σ) := by omega
        subst this
        refine k_X7_left_15 (q1 := 71) (n2 := 32) (fun _ => k_X7_left_59 (fun q => ?_) (fun q => k_X7_left_63 ?_)) (fun q => absurd q (by omega))
        · rw [if_neg q, if_pos (by omega)]
          exact k_X7_left_67 (q1 := 70) (n2 := 6) (q3 := 71) (sp_rollIn hM hA ok.r ok.k) (by rw [g0]; exact ⟨_, rfl, mr_same h⟩)
        · rw [if_pos q]; exact ⟨_, rfl, mr_same h⟩
      | succ n ih =>
        intro j hj
        have hb2 := aB j (by omega) (by omega)
        have hh := ih (j + 1) (by omega)
        have hp : psum (fun k => (rS (gR σ) 2 - kB (gK σ) k) * lenK (gR σ) (gK σ) k) (j + 1) = psum (fun k => (rS (gR σ) 2 - kB (gK σ) k) * lenK (gR σ) (gK σ) k) j + (rS (gR σ) 2 - kB (gK σ) j) * lenK (gR σ) (gK σ) j := rfl
        rw [hp, Int.natCast_add] at hh
        exact k_X7_left_15 (q1 := 71) (n2 := 32) (fun q => absurd q (by omega)) (fun _ => k_X7_left_25 (q1 := 70) (n2 := 6) (q3 := 71) (n4 := 32) (by rw [g0, hb2.1, hb2.2]; exact hh))
    exact key (kC (gK σ)) 0 (by omega)
  · rw [if_neg (by omega), if_neg (by omega)]
    exact i_X7_left (k_X7_left_0 (sp_in0 h1 hk (by omega) (by omega)) (fun q => absurd rfl q) (fun _ => k_X7_left_9 ⟨_, rfl, mr_same h⟩))
theorem m_count {σ : Sg} {k : Int} (h : RM w σ) (ok : okS σ) (hk : sm k) : SpI Γ m_X7_count [vR 63, vI k] w (MR w (fCount σ k, σ)) := by
  obtain ⟨hM, hT, hA, hU, hE, hV⟩ := id h
  obtain ⟨⟨c0, c1, c2, c3, c4, c5, c6, c7, c8, c9, c10, c11, c12, c13, c14⟩, d1, d2, d3, d4, d5, d6, d7, d8, d9, d10, d11, d12, d13, d14⟩ := id hM.1
  obtain ⟨-, a0, aB, aT, aH, aN, aM⟩ := id hA
  have a0 : wI w 71 0 = kC (gK σ) := a0
  have e9 : wI w 63 9 = rS (gR σ) 0 := hM.2.1
  have e0 : wI w 63 0 = gN σ := hT.1
  have e17 : wI w 63 17 = (gU σ).1 := hU.1
  have e19 : wI w 63 19 = (gE σ).1 := hE.1
  have e20 : wI w 63 20 = (gV σ).1 := hV.1
  have hcn := ok.k.cnt ok.r
  have b5 := bcn_r (kH (gK σ)) (r16 ok.k.2.2.2.2.1)
  have b6 := bcn_r (kN (gK σ)) (r16 ok.k.2.2.2.2.2.1)
  have hro := rollK_r ok.r ok.k
  unfold fCount
  refine i_X7_count (k_X7_count_0 (fun q => ?_) (fun q => ?_) (fun q => ?_) (fun q => ?_) (fun q => ?_) (fun q => ?_) (fun q => ?_) (fun q => ?_) (fun q => ?_) (fun q => ?_) (fun q => ?_) (fun q => ?_))
  · subst q; exact k_X7_count_60 ⟨_, rfl, e9, h, Fr.rfl⟩
  · subst q; exact k_X7_count_65 (q1 := 71) (n2 := 32) ⟨_, rfl, a0, h, Fr.rfl⟩
  · subst q; exact k_X7_count_72 (q1 := 71) (sp_rollIn hM hA ok.r ok.k) ⟨_, rfl, rfl, h, Fr.rfl⟩
  · subst q
    refine k_X7_count_81 (q1 := 71) (n2 := 32) (fun q => k_X7_count_101 ⟨_, rfl, ?_, h, Fr.rfl⟩) (fun q => k_X7_count_90 (q1 := 71) (n2 := 32) ⟨_, rfl, ?_, h, Fr.rfl⟩)
    · show (0 : Int) = max 0 ((kC (gK σ) : Int) - 1); omega
    · show wI w 71 0 - 1 = max 0 ((kC (gK σ) : Int) - 1); omega
  · subst q; exact k_X7_count_103 (q1 := 71) (n2 := 32) (z3 := bcn (kH (gK σ))) (by rw [aH]; exact sp_bits) ⟨_, rfl, rfl, h, Fr.rfl⟩
  · subst q; exact k_X7_count_114 (q1 := 71) (n2 := 32) (z3 := bcn (kN (gK σ))) (by rw [aN]; exact sp_bits) ⟨_, rfl, rfl, h, Fr.rfl⟩
  · subst q; exact k_X7_count_125 (q1 := 71) (n2 := 32) ⟨_, rfl, aM, h, Fr.rfl⟩
  · subst q; exact k_X7_count_133 ⟨_, rfl, e20, h, Fr.rfl⟩
  · subst q; exact k_X7_count_138 ⟨_, rfl, e17, h, Fr.rfl⟩
  · subst q; exact k_X7_count_143 ⟨_, rfl, e19, h, Fr.rfl⟩
  · subst q; exact k_X7_count_148 ⟨_, rfl, e0, h, Fr.rfl⟩
  · obtain ⟨a0, a1, a2, a3, a4, a5, a6, a7, a8, a9, a10⟩ := q
    rw [if_neg a0, if_neg a1, if_neg a2, if_neg a3, if_neg a4, if_neg a5, if_neg a6, if_neg a7, if_neg a8, if_neg a9, if_neg a10]
    exact k_X7_count_153 ⟨_, rfl, mr_same h⟩
theorem m_keep {σ : Sg} (h : RM w σ) (ok : okS σ) : SpI Γ m_X7_keep [vR 63] w (MR w (fKeep σ)) := by
  obtain ⟨hM, hT, hA, hU, hE, hV⟩ := id h
  obtain ⟨⟨c0, c1, c2, c3, c4, c5, c6, c7, c8, c9, c10, c11, c12, c13, c14⟩, d1, d2, d3, d4, d5, d6, d7, d8, d9, d10, d11, d12, d13, d14⟩ := id hM.1
  have e19 : wI w 63 19 = (gE σ).1 := hE.1
  have o8 := ok.2.2.2.2.2.1
  have o8a := o8.1
  unfold fKeep
  by_cases h1 : (gE σ).1 < 2
  · rw [if_pos h1]
    refine i_X7_keep (k_X7_keep_0 (fun _ => k_X7_keep_11 (q1 := 71) (q2 := 74) (sp_bring c8 c11 (by omega) (by omega) (by omega) (by omega) (by omega) (Or.inl (by decide))) (fun u hu => ?_)) (fun q => absurd q (by omega)))
    obtain ⟨hF1, hu⟩ := hu
    have c0u : sh u 63 = some (.inr 7) := by rw [hF1.sh]; exact c0
    have e19u : wI u 63 19 = (gE σ).1 := by rw [hF1.2.1 63 (by decide)]; exact e19
    have hF : Fr (fun a => a = 63 ∨ a = 74) w (stI u 63 19 (wI u 63 19 + 1)) := (hF1.mono (fun a ha => Or.inr ha)).trans (Fr.st (Or.inl rfl))
    have es : ∀ k, k ≠ 19 → wI (stI u 63 19 (wI u 63 19 + 1)) 63 k = wI w 63 k := fun k hk => by rw [wI_skip hk, hF1.2.1 63 (by decide)]
    refine k_X7_keep_32 ⟨_, rfl, by rw [e19u], h.act hF (fun a ha => by omega) (fun k hk => es k (by omega)) (hA.fr hF (by decide)) (hU.fr hF (es _ (by decide)) (by decide)) ?_, hF.mono (fun a ha => by omega)⟩
    unfold pushP
    rw [if_pos h1]
    refine ⟨by rw [wI_hit, e19u], fun j j0 j1 => ?_⟩
    have j1' : j < (gE σ).1 + 1 := j1
    show CarM _ 74 (32 * j) (gR σ) (if j = (gE σ).1 then gK σ else (gE σ).2 j)
    by_cases e : j = (gE σ).1
    · rw [if_pos e]
      refine CarM.mv (a := 71) (o := 0) ok.r ok.k hA.toM (fun k k0 k1 => ?_)
      rw [wI_st_ne (by decide), hu, if_pos (by omega)]
      congr 1
      omega
    · rw [if_neg e]
      refine CarM.mv (a := 74) (o := 32 * j) ok.r (o8.2 j j0 (by omega)).1 (hE.2 j j0 (by omega)) (fun k k0 k1 => ?_)
      rw [wI_st_ne (by decide), hu, if_neg (by omega)]
  · rw [if_neg h1]
    exact i_X7_keep (k_X7_keep_0 (fun q => absurd q (by omega)) (fun _ => k_X7_keep_8 ⟨_, rfl, mr_same h⟩))
theorem m_back {σ : Sg} (h : RM w σ) (ok : okS σ) : SpI Γ m_X7_back [vR 63] w (MR w (fBack σ)) := by
  obtain ⟨hM, hT, hA, hU, hE, hV⟩ := id h
  obtain ⟨⟨c0, c1, c2, c3, c4, c5, c6, c7, c8, c9, c10, c11, c12, c13, c14⟩, d1, d2, d3, d4, d5, d6, d7, d8, d9, d10, d11, d12, d13, d14⟩ := id hM.1
  have e19 : wI w 63 19 = (gE σ).1 := hE.1
  have o8 := ok.2.2.2.2.2.1
  have o8a := o8.1
  unfold fBack
  by_cases h1 : (gE σ).1 = 0
  · rw [if_pos h1]
    exact i_X7_back (k_X7_back_0 (fun q => absurd q (by omega)) (fun _ => k_X7_back_7 ⟨_, rfl, mr_same h⟩))
  · rw [if_neg h1]
    have hF1 : Fr (fun a => a = 63) w (stI w 63 19 (wI w 63 19 - 1)) := Fr.st rfl
    refine i_X7_back (k_X7_back_0 (fun _ => k_X7_back_10 (q1 := 74) (q2 := 71) (sp_bring (na := 64) (nb := 32) (by rw [hF1.sh]; exact c11) (by rw [hF1.sh]; exact c8) (by omega) (by omega) (by omega) (by omega) (by omega) (Or.inl (by decide))) (fun u hu => ?_)) (fun q => absurd q (by omega)))
    obtain ⟨hF2, hu⟩ := hu
    have c0u : sh u 63 = some (.inr 7) := by rw [hF2.sh, hF1.sh]; exact c0
    have hF : Fr (fun a => a = 63 ∨ a = 71) w (stI u 63 17 0) := ((hF1.mono (fun a ha => Or.inl ha)).trans (hF2.mono (fun a ha => Or.inr ha))).trans (Fr.st (Or.inl rfl))
    have es : ∀ k, k ≠ 17 → k ≠ 19 → wI (stI u 63 17 0) 63 k = wI w 63 k := fun k hk hk2 => by rw [wI_skip hk, hF2.2.1 63 (by decide), wI_skip hk2]
    have e19u : wI u 63 19 = (gE σ).1 - 1 := by rw [hF2.2.1 63 (by decide), wI_hit, e19]
    have e19v : wI (stI u 63 17 0) 63 19 = (gE σ).1 - 1 := by rw [wI_skip (by decide)]; exact e19u
    refine k_X7_back_41 ⟨_, rfl, ?_, h.act hF (fun a ha => by omega) (fun k hk => es k (by omega) (by omega)) ?_ ⟨by rw [wI_hit], fun j j0 j1 => ?_⟩ ⟨e19v, fun j j0 j1 => ?_⟩, hF.mono (fun a ha => by omega)⟩
    · exact e19u
    · refine CarM.toA (by rw [hF.sh]; exact c8) (CarM.mv (a := 74) (o := 32 * ((gE σ).1 - 1)) ok.r (o8.2 ((gE σ).1 - 1) (by omega) (by omega)).1 (hE.2 ((gE σ).1 - 1) (by omega) (by omega)) (fun k x y => ?_))
      rw [wI_st_ne (by decide), hu, if_pos (by omega), wI_st_ne (by decide), e19]
      congr 1
      omega
    · have j1' : j < 0 := j1
      omega
    · have j1' : j < (gE σ).1 - 1 := j1
      exact (hE.2 j j0 (by omega)).fr hF (by decide)
end
