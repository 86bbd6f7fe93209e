section
variable {Γ : Gm} {w : Wd}
theorem fr73 {w u : Wd} (h : Fr (fun a => a = 63 ∨ a = 73) w u) : Fr (fun a => 63 ≤ a) w u := h.mono (fun a ha => by omega)
theorem fr71 {w u : Wd} (h : Fr (fun a => a = 71) w u) : Fr (fun a => 63 ≤ a) w u := h.mono (fun a ha => by omega)
theorem lenF_r {ρ : Rm} {a b : Int} (okr : okR ρ) (ha : 0 ≤ a) (hb : 0 ≤ b) (hab : a + b ≤ rS ρ 0) : 0 ≤ lenF ρ a b ∧ lenF ρ a b ≤ 45 := by
  have h := mxF_r (f := rL ρ) (a := a) (M := 40) b.toNat (fun j hj => by have := (okr.2.2.2.2.2.2.2.2.1 (a + j) (by omega) (by omega)).1; omega) (by omega)
  have o := okr.2.2.2.2.1
  unfold lenF
  omega
theorem m_cut {σ : Sg} {b : Int} (h : RM w σ) (ok : okS σ) (hb : sm b) : SpI Γ m_X7_cut [vR 63, vI b] w (MR w (fCut σ b)) := by
  obtain ⟨hM, hT, hA, hU, hE, hV⟩ := id h
  obtain ⟨⟨c0, c1, c2, c3, c4, c5, c6, c7, c8, c9, c10, c11, c12, c13, c14⟩, d1, d2, d3, d4, d5, d6, d7, d8, d9, d10, d11, d12, d13, d14⟩ := id hM.1
  have e9 : wI w 63 9 = rS (gR σ) 0 := hM.2.1
  have g0 := hM.2.2.2.1 0 (by omega) (by omega)
  rw [show (0 : Int) + 2 = 2 by rfl] at g0
  have o0 := ok.r.1
  have o2 := ok.r.2.2.1
  have hro := rollK_r ok.r ok.k
  have hcn := ok.k.cnt ok.r
  unfold fCut
  by_cases h1 : 1 ≤ b ∧ b ≤ 6
  · rw [if_pos h1]
    refine i_X7_cut (k_X7_cut_0 (sp_in1 h1 hb (by omega) (by omega)) (fun _ => ?_) (fun q => absurd q (by decide)))
    have hcov := psum_0 (f := kB (gK σ)) (kC (gK σ)) (fun j a b => by have := ok.k.1 j a (by omega); omega)
    have hcov : 0 ≤ covK (gK σ) := hcov
    refine k_X7_cut_12 (q1 := 71) (q3 := 70) (n4 := 6) (sp_coveredIn hA ok.r ok.k) (fun q => ?_) (fun q => ?_)
    · rw [if_neg (fun q2 => by have := q2.1; omega)]
      exact k_X7_cut_57 ⟨_, rfl, mr_same h⟩
    · refine k_X7_cut_30 (fun q2 => ?_) (fun q2 => ?_)
      · rw [if_neg (fun q3 => by have := q3.2.1; omega)]
        exact k_X7_cut_57 ⟨_, rfl, mr_same h⟩
      · have hlen := sp_longFor (Γ := Γ) hM ok.r hcov (show 0 ≤ b by omega) (by omega)
        have hlr := lenF_r (ρ := gR σ) (a := covK (gK σ)) (b := b) ok.r hcov (by omega) (by omega)
        refine k_X7_cut_40 (q2 := 71) hlen (sp_rollIn hM hA ok.r ok.k) (fun q3 => ?_) (fun q3 => ?_)
        · have hco : cutOk (gR σ) (gK σ) b := ⟨by omega, by omega, q3⟩
          rw [if_pos hco]
          refine k_X7_cut_60 (m_note h ok) (fun u hu => ?_)
          obtain ⟨hRu, hF⟩ := hu
          obtain ⟨hMu, hTu, hAu, -⟩ := id hRu
          obtain ⟨⟨c0, c1, c2, c3, c4, c5, c6, c7, c8, c9, c10, c11, c12, c13, c14⟩, d1, d2, d3, d4, d5, d6, d7, d8, d9, d10, d11, d12, d13, d14⟩ := id hMu.1
          obtain ⟨-, a0, aB, aT, aH, aN, aM⟩ := id hAu
          have a0 : wI u 71 0 = kC (gK σ) := a0
          have s1 : wI (stI u 71 (1 + wI u 71 0) b) 71 0 = kC (gK σ) := by rw [wI_skip (by omega)]; exact a0
          have hc12 : (kC (gK σ) : Int) ≤ 11 := by have := hco.2.1; omega
          refine k_X7_cut_64 (q2 := 71) (n4 := 32) (sp_longFor (ρ := gR σ) hMu ok.r hcov (show 0 ≤ b by omega) (by omega)) ?_
          rw [s1, a0]
          have s2 : wI (stI (stI u 71 (1 + (kC (gK σ) : Int)) b) 71 (13 + (kC (gK σ) : Int)) (lenF (gR σ) (covK (gK σ)) b)) 71 0 = kC (gK σ) := by rw [wI_skip (by omega), wI_skip (by omega)]; exact a0
          rw [s2]
          have hF2 : Fr (fun q => q = 71) u (stI (stI (stI u 71 (1 + (kC (gK σ) : Int)) b) 71 (13 + (kC (gK σ) : Int)) (lenF (gR σ) (covK (gK σ)) b)) 71 0 ((kC (gK σ) : Int) + 1)) := ((Fr.st (P := fun q => q = 71) rfl).trans (Fr.st (P := fun q => q = 71) rfl)).trans (Fr.st (P := fun q => q = 71) rfl)
          refine ⟨_, rfl, rfl, hRu.now (κ := cutK (gK σ) b) hF2 ⟨by rw [hF2.sh]; exact c8, ?_, fun k k0 k1 => ?_, fun i i0 i1 => ?_, ?_, ?_, ?_⟩, (fr73 hF).trans (fr71 hF2)⟩
          · rw [wI_hit]; rfl
          · have k1' : k < ((kC (gK σ) + 1 : Nat) : Int) := k1
            have k2 : k ≤ (kC (gK σ) : Int) := by omega
            show _ = (if k = (kC (gK σ) : Int) then b else kB (gK σ) k) ∧ _ = lenK (gR σ) (cutK (gK σ) b) k
            by_cases e : k = (kC (gK σ) : Int)
            · rw [if_pos e, e]
              refine ⟨?_, ?_⟩
              · rw [wI_skip (by omega), wI_skip (by omega), wI_hit]
              · rw [wI_skip (by omega), wI_hit, cut_nums.2.2]
            · have := lenK_up (ρ := gR σ) (κ := gK σ) (b := b) (k := k.toNat) (by omega)
              rw [show ((k.toNat : Nat) : Int) = k by omega] at this
              have ab : wI u 71 (1 + k) = kB (gK σ) k ∧ wI u 71 (13 + k) = lenK (gR σ) (gK σ) k := aB k k0 (by show k < (kC (gK σ) : Int); omega)
              rw [if_neg e, this]
              refine ⟨?_, ?_⟩
              · rw [wI_skip (by omega), wI_skip (by omega), wI_skip (by omega)]; exact ab.1
              · rw [wI_skip (by omega), wI_skip (by omega), wI_skip (by omega)]; exact ab.2
          · rw [wI_skip (by omega), wI_skip (by omega), wI_skip (by omega)]; exact aT i i0 i1
          · rw [wI_skip (by omega), wI_skip (by omega), wI_skip (by omega)]; exact aH
          · rw [wI_skip (by omega), wI_skip (by omega), wI_skip (by omega)]; exact aN
          · rw [wI_skip (by omega), wI_skip (by omega), wI_skip (by omega)]; exact aM
        · rw [if_neg (fun q4 => by have := q4.2.2; omega)]
          exact k_X7_cut_57 ⟨_, rfl, mr_same h⟩
  · rw [if_neg h1]
    exact i_X7_cut (k_X7_cut_0 (sp_in0 h1 hb (by omega) (by omega)) (fun q => absurd rfl q) (fun _ => k_X7_cut_10 ⟨_, rfl, mr_same h⟩))
theorem m_hook {σ : Sg} {i f : Int} (h : RM w σ) (ok : okS σ) (hi : sm i) (hf : sm f) : SpI Γ m_X7_hook [vR 63, vI i, vI f] w (MR w (fHook σ i f)) := by
  obtain ⟨hM, hT, hA, hU, hE, hV⟩ := id h
  obtain ⟨⟨c0, c1, c2, c3, c4, c5, c6, c7, c8, c9, c10, c11, c12, c13, c14⟩, d1, d2, d3, d4, d5, d6, d7, d8, d9, d10, d11, d12, d13, d14⟩ := id hM.1
  unfold fHook
  by_cases h1 : 0 ≤ i ∧ i ≤ 3
  · have hi4 : 0 ≤ i ∧ i < 4 := by omega
    refine i_X7_hook (k_X7_hook_0 (sp_in1 h1 hi (by omega) (by omega)) (fun q => absurd q (by decide)) (fun _ => ?_))
    by_cases h2 : 0 ≤ f ∧ f ≤ 20
    · rw [if_pos ⟨h1, h2⟩]
      refine k_X7_hook_9 (sp_in1 h2 hf (by omega) (by omega)) (fun _ => ?_) (fun q => absurd q (by decide))
      by_cases h3 : covK (gK σ) = rS (gR σ) 0
      · refine k_X7_hook_21 (sp_isCoveredM1 hM hA ok.r ok.k h3) (fun q => absurd q (by decide)) (fun _ => ?_)
        by_cases h4 : freeK (gK σ) i
        · rw [if_pos ⟨h3, h4⟩]
          refine k_X7_hook_28 (q1 := 71) (sp_isFreeM1 hA ok.k hi4 h4) (fun _ => ?_) (fun q => absurd q (by decide))
          refine k_X7_hook_42 (m_note h ok) (fun u hu => ?_)
          obtain ⟨hRu, hF⟩ := hu
          obtain ⟨hMu, hTu, hAu, -⟩ := id hRu
          obtain ⟨⟨c0, c1, c2, c3, c4, c5, c6, c7, c8, c9, c10, c11, c12, c13, c14⟩, d1, d2, d3, d4, d5, d6, d7, d8, d9, d10, d11, d12, d13, d14⟩ := id hMu.1
          refine k_X7_hook_46 (q1 := 71) (sp_kickM (ρ := gR σ) (κ := gK σ) hMu hAu ok.r ok.k hi4 h2) (fun v hv => ?_)
          obtain ⟨hAv, hF2⟩ := hv
          have hRv := hRu.now hF2 hAv
          obtain ⟨hMv, -⟩ := id hRv
          obtain ⟨⟨c0, c1, c2, c3, c4, c5, c6, c7, c8, c9, c10, c11, c12, c13, c14⟩, d1, d2, d3, d4, d5, d6, d7, d8, d9, d10, d11, d12, d13, d14⟩ := id hMv.1
          refine k_X7_hook_56 (q1 := 71) (n2 := 32) ⟨_, rfl, ?_, hRv, (fr73 hF).trans (fr71 hF2)⟩
          have hat := hAv.2.2.2.1 i hi4.1 hi4.2
          rw [hat]
          show kT (kick (gR σ) (gK σ) i f) i = _
          have hfr := ok.k.2.2.2.1 i hi4.1 hi4.2
          unfold kick
          by_cases e : tby (gR σ) (gK σ) i f ≤ rS (gR σ) 5
          · rw [if_pos e, if_pos e]; exact if_pos rfl
          · rw [if_neg e, if_neg e]; exact hfr.2.2 h4.1
        · rw [if_neg (fun q => h4 q.2)]
          exact k_X7_hook_28 (q1 := 71) (sp_isFreeM0 hA ok.k hi4 h4) (fun q => absurd rfl q) (fun _ => k_X7_hook_39 ⟨_, rfl, mr_same h⟩)
      · rw [if_neg (fun q => h3 q.1)]
        exact k_X7_hook_21 (sp_isCoveredM0 hM hA ok.r ok.k h3) (fun _ => k_X7_hook_39 ⟨_, rfl, mr_same h⟩) (fun q => absurd rfl q)
    · rw [if_neg (fun q => h2 q.2)]
      exact k_X7_hook_9 (sp_in0 h2 hf (by omega) (by omega)) (fun q => absurd rfl q) (fun _ => k_X7_hook_19 ⟨_, rfl, mr_same h⟩)
  · rw [if_neg (fun q => h1 q.1)]
    exact i_X7_hook (k_X7_hook_0 (sp_in0 h1 hi (by omega) (by omega)) (fun _ => k_X7_hook_19 ⟨_, rfl, mr_same h⟩) (fun q => absurd rfl q))
theorem m_letGo {σ : Sg} {i : Int} (h : RM w σ) (ok : okS σ) (hi : sm i) : SpI Γ m_X7_letGo [vR 63, vI i] w (MR w (fLetGo σ i)) := by
  obtain ⟨hM, hT, hA, hU, hE, hV⟩ := id h
  obtain ⟨⟨c0, c1, c2, c3, c4, c5, c6, c7, c8, c9, c10, c11, c12, c13, c14⟩, d1, d2, d3, d4, d5, d6, d7, d8, d9, d10, d11, d12, d13, d14⟩ := id hM.1
  unfold fLetGo
  by_cases h1 : 0 ≤ i ∧ i ≤ 3
  · rw [if_pos h1]
    have hi4 : 0 ≤ i ∧ i < 4 := by omega
    have hbit := bit_r ok.k.2.2.2.2.1 hi4
    refine i_X7_letGo (k_X7_letGo_0 (sp_in1 h1 hi (by omega) (by omega)) (fun _ => ?_) (fun q => absurd q (by decide)))
    refine k_X7_letGo_11 (q1 := 71) (sp_isHookedM hA ok.k hi4) (fun q => ?_) (fun q => ?_)
    · rw [if_neg q]
      refine k_X7_letGo_25 (m_note h ok) (fun u hu => ?_)
      obtain ⟨hRu, hF⟩ := hu
      obtain ⟨hMu, hTu, hAu, -⟩ := id hRu
      obtain ⟨⟨c0, c1, c2, c3, c4, c5, c6, c7, c8, c9, c10, c11, c12, c13, c14⟩, d1, d2, d3, d4, d5, d6, d7, d8, d9, d10, d11, d12, d13, d14⟩ := id hMu.1
      refine k_X7_letGo_29 (q1 := 71) (n2 := 32) (sp_loosen (ρ := gR σ) (κ := gK σ) hAu ok.r ok.k hi4) (fun v hv => ?_)
      obtain ⟨hAv, hF2⟩ := hv
      exact k_X7_letGo_47 ⟨_, rfl, hAu.2.2.2.1 i hi4.1 hi4.2, hRu.now hF2 hAv, (fr73 hF).trans (fr71 hF2)⟩
    · rw [if_pos q]
      exact k_X7_letGo_22 ⟨_, rfl, mr_same h⟩
  · rw [if_neg h1]
    exact i_X7_letGo (k_X7_letGo_0 (sp_in0 h1 hi (by omega) (by omega)) (fun q => absurd rfl q) (fun _ => k_X7_letGo_9 ⟨_, rfl, mr_same h⟩))
theorem mpass_loop {σ : Sg} {n : Int} (h : RM w σ) (okr : okR (gR σ)) {κ : Kp} (ok : okK (gR σ) κ) (hk : gK σ = κ) (hn : 0 ≤ n ∧ n ≤ 60) (hm0 : 0 ≤ kM κ) (hm : kM κ + n ≤ 999) {Q : Option Value → Wd → Prop} (hQ : ∀ u, RM u (σ.1, gR σ, monN (gR σ) κ n.toNat, gU σ, gE σ, gV σ) → Fr (fun a => a = 71) w u → Q (some (vI (kM κ + n))) u) : ∀ (m k : Nat) (u : Wd), (k : Int) + m = n → RM u (σ.1, gR σ, monN (gR σ) κ k, gU σ, gE σ, gV σ) → Fr (fun a => a = 71) w u → G Γ m_X7_pass Q 0 0 36 [some (vR 63), some (vI n), some (vI k)] [] u := by
  intro m
  induction m with
  | zero =>
    intro k u hk hR hF
    obtain ⟨hM, -, hA, -⟩ := id hR
    obtain ⟨⟨c0, c1, c2, c3, c4, c5, c6, c7, c8, c9, c10, c11, c12, c13, c14⟩, d1, d2, d3, d4, d5, d6, d7, d8, d9, d10, d11, d12, d13, d14⟩ := id hM.1
    have e7 := hA.2.2.2.2.2.2
    have hmm := monN_ok okr ok k (by omega)
    refine k_X7_pass_36 (fun _ => k_X7_pass_55 (q1 := 71) (n2 := 32) ?_) (fun q => absurd q (by omega))
    have hkn : k = n.toNat := by omega
    have e7' : wI u 71 31 = kM (monN (gR σ) κ k) := e7
    have hk2 : (k : Int) = n := by omega
    rw [e7', hmm.2, hk2]
    rw [hkn] at hR
    exact hQ u hR hF
  | succ m ih =>
    intro k u hk hR hF
    obtain ⟨hM, -, hA, -⟩ := id hR
    obtain ⟨⟨c0, c1, c2, c3, c4, c5, c6, c7, c8, c9, c10, c11, c12, c13, c14⟩, d1, d2, d3, d4, d5, d6, d7, d8, d9, d10, d11, d12, d13, d14⟩ := id hM.1
    have hmm := monN_ok okr ok k (by omega)
    refine k_X7_pass_36 (fun q => absurd q (by omega)) (fun _ => k_X7_pass_41 (q1 := 71) (sp_passM (ρ := gR σ) hM hA okr hmm.1) (fun v hv => k_X7_pass_49 ?_))
    have hh := ih (k + 1) v (by omega) (hR.now hv.2 hv.1) (hF.trans hv.2)
    rw [Int.natCast_add] at hh
    exact hh
theorem m_pass {σ : Sg} {n : Int} (h : RM w σ) (ok : okS σ) (hn : sm n) : SpI Γ m_X7_pass [vR 63, vI n] w (MR w (fPass σ n)) := by
  obtain ⟨hM, hT, hA, hU, hE, hV⟩ := id h
  obtain ⟨⟨c0, c1, c2, c3, c4, c5, c6, c7, c8, c9, c10, c11, c12, c13, c14⟩, d1, d2, d3, d4, d5, d6, d7, d8, d9, d10, d11, d12, d13, d14⟩ := id hM.1
  have e7 : wI w 71 31 = kM (gK σ) := hA.2.2.2.2.2.2
  have hm9 := ok.2.2.2.1.2
  have hk := ok.k.2.2.2.2.2.2
  unfold fPass
  by_cases h1 : 1 ≤ n ∧ n ≤ 60
  · rw [if_pos h1]
    refine i_X7_pass (k_X7_pass_0 (sp_in1 h1 hn (by omega) (by omega)) (fun _ => ?_) (fun q => absurd q (by decide)))
    by_cases h2 : kM (gK σ) + n ≤ 999
    · rw [if_pos h2]
      refine k_X7_pass_12 (q1 := 71) (n2 := 32) (fun _ => ?_) (fun q => absurd q (by omega))
      refine k_X7_pass_30 (m_note h ok) (fun u hu => k_X7_pass_34 ?_)
      exact mpass_loop (σ := noteS σ (gK σ)) (κ := gK σ) hu.1 ok.r ok.k rfl (by omega) (by omega) h2 (fun v hv hF => ⟨_, rfl, rfl, hv, (fr73 hu.2).trans (fr71 hF)⟩) n.toNat 0 u (by omega) hu.1 Fr.rfl
    · rw [if_neg h2]
      exact k_X7_pass_12 (q1 := 71) (n2 := 32) (fun q => absurd q (by omega)) (fun _ => k_X7_pass_27 ⟨_, rfl, mr_same h⟩)
  · rw [if_neg h1]
    exact i_X7_pass (k_X7_pass_0 (sp_in0 h1 hn (by omega) (by omega)) (fun q => absurd rfl q) (fun _ => k_X7_pass_10 ⟨_, rfl, mr_same h⟩))
theorem m_undo {σ : Sg} (h : RM w σ) (ok : okS σ) : SpI Γ m_X7_undo [vR 63] w (MR w (fUndo σ)) := by
  obtain ⟨hM, hT, hA, hU, hE, hV⟩ := id h
  obtain ⟨⟨c0, c1, c2, c3, c4, c5, c6, c7, c8, c9, c10, c11, c12, c13, c14⟩, d1, d2, d3, d4, d5, d6, d7, d8, d9, d10, d11, d12, d13, d14⟩ := id hM.1
  have e17 : wI w 63 17 = (gU σ).1 := hU.1
  have o8 := ok.2.2.2.2.1
  have o8a := o8.1
  unfold fUndo
  by_cases h1 : (gU σ).1 = 0
  · rw [if_pos h1]
    exact i_X7_undo (k_X7_undo_0 (fun q => absurd q (by omega)) (fun _ => k_X7_undo_7 ⟨_, rfl, mr_same h⟩))
  · rw [if_neg h1]
    have hF1 : Fr (fun a => a = 63) w (stI w 63 17 (wI w 63 17 - 1)) := Fr.st rfl
    refine i_X7_undo (k_X7_undo_0 (fun _ => k_X7_undo_10 (q1 := 73) (q2 := 71) (sp_bring (na := 256) (nb := 32) (by rw [hF1.sh]; exact c10) (by rw [hF1.sh]; exact c8) (by omega) (by omega) (by omega) (by omega) (by omega) (Or.inl (by decide))) (fun u hu => ?_)) (fun q => absurd q (by omega)))
    obtain ⟨hF2, hu⟩ := hu
    have hF : Fr (fun a => a = 63 ∨ a = 71) w u := (hF1.mono (fun a ha => Or.inl ha)).trans (hF2.mono (fun a ha => Or.inr ha))
    have c0u : sh u 63 = some (.inr 7) := by rw [hF.sh]; exact c0
    have es : ∀ k, k ≠ 17 → wI u 63 k = wI w 63 k := fun k hk => by rw [hF2.2.1 63 (by decide), wI_skip hk]
    have e17u : wI u 63 17 = (gU σ).1 - 1 := by rw [hF2.2.1 63 (by decide), wI_hit, e17]
    refine k_X7_undo_41 ⟨_, rfl, e17u, h.act hF (fun a ha => by omega) (fun k hk => es k (by omega)) ?_ ⟨e17u, fun j j0 j1 => ?_⟩ (hE.fr hF (es _ (by decide)) (by decide)), hF.mono (fun a ha => by omega)⟩
    · refine CarM.toA (by rw [hF.sh]; exact c8) (CarM.mv (a := 73) (o := 32 * ((gU σ).1 - 1)) ok.r (o8.2 ((gU σ).1 - 1) (by omega) (by omega)).1 (hU.2 ((gU σ).1 - 1) (by omega) (by omega)) (fun k x y => ?_))
      rw [hu, if_pos (by omega), wI_st_ne (by decide), e17]
      congr 1
      omega
    · have j1' : j < (gU σ).1 - 1 := j1
      exact (hU.2 j j0 (by omega)).fr hF (by decide)
theorem m_kickFor {σ : Sg} {i t : Int} (h : RM w σ) (ok : okS σ) (hi : sm i) (ht : sm t) : SpI Γ m_X7_kickFor [vR 63, vI i, vI t] w (MR w (fKickFor σ i t, σ)) := by
  obtain ⟨hM, hT, hA, hU, hE, hV⟩ := id h
  obtain ⟨⟨c0, c1, c2, c3, c4, c5, c6, c7, c8, c9, c10, c11, c12, c13, c14⟩, d1, d2, d3, d4, d5, d6, d7, d8, d9, d10, d11, d12, d13, d14⟩ := id hM.1
  unfold fKickFor
  by_cases h1 : 0 ≤ i ∧ i ≤ 3
  · have hi4 : 0 ≤ i ∧ i < 4 := by omega
    refine i_X7_kickFor (k_X7_kickFor_0 (sp_in1 h1 hi (by omega) (by omega)) (fun q => absurd q (by decide)) (fun _ => ?_))
    by_cases h2 : 0 ≤ t ∧ t ≤ 30
    · rw [if_pos ⟨h1, h2⟩]
      refine k_X7_kickFor_9 (sp_in1 h2 ht (by omega) (by omega)) (fun _ => ?_) (fun q => absurd q (by decide))
      by_cases h3 : freeK (gK σ) i
      · rw [if_pos h3]
        exact k_X7_kickFor_21 (q1 := 71) (sp_isFreeM1 hA ok.k hi4 h3) (fun q => absurd q (by decide)) (fun _ => k_X7_kickFor_32 (q1 := 71) (sp_leastKickM hM hA ok.r ok.k hi4 h2) ⟨_, rfl, mr_same h⟩)
      · rw [if_neg h3]
        exact k_X7_kickFor_21 (q1 := 71) (sp_isFreeM0 hA ok.k hi4 h3) (fun _ => k_X7_kickFor_45 ⟨_, rfl, mr_same h⟩) (fun q => absurd rfl q)
    · rw [if_neg (fun q => h2 q.2)]
      exact k_X7_kickFor_9 (sp_in0 h2 ht (by omega) (by omega)) (fun q => absurd rfl q) (fun _ => k_X7_kickFor_19 ⟨_, rfl, mr_same h⟩)
  · rw [if_neg (fun q => h1 q.1)]
    exact i_X7_kickFor (k_X7_kickFor_0 (sp_in0 h1 hi (by omega) (by omega)) (fun _ => k_X7_kickFor_19 ⟨_, rfl, mr_same h⟩) (fun q => absurd rfl q))
theorem m_seen {σ : Sg} {f v : Int} (h : RM w σ) (ok : okS σ) (hf : sm f) (hv : sm v) : SpI Γ m_X7_seen [vR 63, vI f, vI v] w (MR w (fSeen σ f v)) := by
  obtain ⟨hM, hT, hA, hU, hE, hV⟩ := id h
  obtain ⟨⟨c0, c1, c2, c3, c4, c5, c6, c7, c8, c9, c10, c11, c12, c13, c14⟩, d1, d2, d3, d4, d5, d6, d7, d8, d9, d10, d11, d12, d13, d14⟩ := id hM.1
  have e20 : wI w 63 20 = (gV σ).1 := hV.1
  have oV := ok.2.2.2.2.2.2.1
  unfold fSeen
  by_cases h1 : 0 ≤ f ∧ f ≤ 20
  · refine i_X7_seen (k_X7_seen_0 (sp_in1 h1 hf (by omega) (by omega)) (fun q => absurd q (by decide)) (fun _ => ?_))
    by_cases h2 : 0 ≤ v ∧ v ≤ 40
    · rw [if_pos ⟨h1, h2⟩]
      refine k_X7_seen_10 (sp_in1 h2 hv (by omega) (by omega)) (fun _ => ?_) (fun q => absurd q (by decide))
      by_cases h3 : (gV σ).1 < 6
      · rw [if_pos h3]
        have s1 : wI (stI w 75 (2 * wI w 63 20) f) 63 20 = wI w 63 20 := wI_st_ne (by decide)
        have s2 : wI (stI (stI w 75 (2 * wI w 63 20) f) 75 (2 * wI w 63 20 + 1) v) 63 20 = wI w 63 20 := by rw [wI_st_ne (by decide), wI_st_ne (by decide)]
        refine k_X7_seen_22 (fun _ => k_X7_seen_34 (q1 := 75) (n2 := 12) ?_) (fun q => absurd q (by omega))
        rw [s1, s2, e20]
        have hF : Fr (fun a => a = 63 ∨ a = 75) w (stI (stI (stI w 75 (2 * (gV σ).1) f) 75 (2 * (gV σ).1 + 1) v) 63 20 ((gV σ).1 + 1)) := ((Fr.st (Or.inr rfl)).trans (Fr.st (Or.inr rfl))).trans (Fr.st (Or.inl rfl))
        have es : ∀ k, k ≠ 20 → wI (stI (stI (stI w 75 (2 * (gV σ).1) f) 75 (2 * (gV σ).1 + 1) v) 63 20 ((gV σ).1 + 1)) 63 k = wI w 63 k := fun k hk => by rw [wI_skip hk, wI_st_ne (by decide), wI_st_ne (by decide)]
        refine ⟨_, rfl, rfl, ⟨hM.fr hF ⟨es 9 (by decide), es 10 (by decide)⟩ (by decide), hT.fr hF (es _ (by decide)) (by decide), hA.fr hF (by decide), hU.fr hF (es _ (by decide)) (by decide), hE.fr hF (es _ (by decide)) (by decide), by rw [wI_hit], fun k k0 k1 => ?_⟩, hF.mono (fun q hq => by omega)⟩
        have k1' : k < (gV σ).1 + 1 := k1
        rw [wI_st_ne (r := 63) (a := 75) (by decide), wI_st_ne (r := 63) (a := 75) (by decide)]
        show _ = (if k = (gV σ).1 then f else (gV σ).2.1 k) ∧ _ = (if k = (gV σ).1 then v else (gV σ).2.2 k)
        by_cases e : k = (gV σ).1
        · rw [if_pos e, if_pos e, e, wI_skip (by omega), wI_hit, wI_hit]; exact ⟨rfl, rfl⟩
        · rw [if_neg e, if_neg e, wI_skip (by omega), wI_skip (by omega), wI_skip (by omega), wI_skip (by omega)]
          exact hV.2 k k0 (by omega)
      · rw [if_neg h3]
        exact k_X7_seen_22 (fun q => absurd q (by omega)) (fun _ => k_X7_seen_31 ⟨_, rfl, mr_same h⟩)
    · rw [if_neg (fun q => h2 q.2)]
      exact k_X7_seen_10 (sp_in0 h2 hv (by omega) (by omega)) (fun q => absurd rfl q) (fun _ => k_X7_seen_20 ⟨_, rfl, mr_same h⟩)
  · rw [if_neg (fun q => h1 q.1)]
    exact i_X7_seen (k_X7_seen_0 (sp_in0 h1 hf (by omega) (by omega)) (fun _ => k_X7_seen_20 ⟨_, rfl, mr_same h⟩) (fun q => absurd rfl q))
theorem m_forget {σ : Sg} (h : RM w σ) : SpI Γ m_X7_forget [vR 63] w (MR w (fForget σ)) := by
  obtain ⟨hM, hT, hA, hU, hE, hV⟩ := id h
  have c0 := hM.1.1.1
  have hF : Fr (fun q => q = 63) w (stI w 63 20 0) := Fr.st rfl
  have es : ∀ k, k ≠ 20 → wI (stI w 63 20 0) 63 k = wI w 63 k := fun k hk => wI_skip hk
  refine i_X7_forget (k_X7_forget_0 ⟨_, rfl, hV.1, ⟨hM.fr hF ⟨es 9 (by decide), es 10 (by decide)⟩ (by decide), hT.fr hF (es _ (by decide)) (by decide), hA.fr hF (by decide), hU.fr hF (es _ (by decide)) (by decide), hE.fr hF (es _ (by decide)) (by decide), by rw [wI_hit]; rfl, fun k k0 k1 => ?_⟩, hF.mono (fun q hq => by omega)⟩)
  have k1' : k < 0 := k1
  omega
end
