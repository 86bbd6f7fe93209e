section
variable {Γ : Gm} {w : Wd}
theorem RwM.ix {a : Nat} : ∀ (l : List Int) (i k : Int), RwM w a i l → 0 ≤ k → k < l.length → wI w a (i + k) = ixF l k
  | [], _, k, _, h0, h1 => absurd h1 (by simp only [List.length_nil]; omega)
  | b :: l, i, k, h, h0, h1 => by
    have h1 : k < ((l.length + 1 : Nat) : Int) := h1
    unfold ixF
    by_cases e : k = 0
    · rw [if_pos e, e, Int.add_zero]; exact h.1
    · rw [if_neg e, ← RwM.ix l (i + 1) (k - 1) h.2 (by omega) (by omega)]
      congr 1
      omega
theorem ix_far : ∀ (l : List Int) (k : Int), (l.length : Int) ≤ k → ixF l k = -4
  | [], _, _ => rfl
  | b :: l, k, h => by
    have h : ((l.length + 1 : Nat) : Int) ≤ k := h
    unfold ixF
    rw [if_neg (by omega)]
    exact ix_far l (k - 1) (by omega)
theorem m_plan {σ : Sg} {k : Int} (h : RM w σ) (ok : okS σ) (hk : sm k) : SpI Γ m_X7_plan [vR 63, vI k] w (MR w (fPlan σ k, σ)) := by
  have c0 := h.1.1.1.1
  unfold fPlan
  by_cases h1 : k < -2
  · rw [if_pos h1]
    exact i_X7_plan (k_X7_plan_0 (fun q => absurd q (by omega)) (fun _ => k_X7_plan_6 ⟨_, rfl, mr_same h⟩))
  · rw [if_neg h1]
    refine i_X7_plan (k_X7_plan_0 (fun _ => k_X7_plan_8 (sp_layPlan h ok) (fun u hu => ?_)) (fun q => absurd q (by omega)))
    obtain ⟨hF, es, B, hB, hE⟩ := hu
    have hRu := h.bst hF (fun a ha => by unfold Pl at ha; omega) es
    obtain ⟨⟨c0, c1, c2, c3, c4, c5, c6, c7, c8, c9, c10, c11, c12, c13, c14⟩, d1, d2, d3, d4, d5, d6, d7, d8, d9, d10, d11, d12, d13, d14⟩ := id hRu.1.1
    have hFw : Fr (fun a => 63 ≤ a) w u := hF.mono (fun a ha => by unfold Pl at ha; omega)
    by_cases h2 : rollK (gR σ) (gK σ) < (tF σ).1 (covK (gK σ))
    · rw [if_pos h2] at hE ⊢
      subst hE
      have e25 : wI u 63 25 = -1 := hB.1
      exact k_X7_plan_12 (fun q => absurd q (by omega)) (fun _ => k_X7_plan_19 ⟨_, rfl, rfl, hRu, hFw⟩)
    · rw [if_neg h2] at hE ⊢
      subst hE
      obtain ⟨⟨e25, e26, e24⟩, h77, ⟨hlen, hsm⟩, hc1, hc2⟩ := hB
      have e25 : wI u 63 25 = (tF σ).1 (covK (gK σ)) := e25
      have e26 : wI u 63 26 = (tF σ).2.1 (covK (gK σ)) := e26
      have e24 : wI u 63 24 = ((rowF (tF σ) (rS (gR σ) 0) 12 (covK (gK σ))).length : Int) := e24
      have hlen : (rowF (tF σ) (rS (gR σ) 0) 12 (covK (gK σ))).length ≤ 12 := hlen
      have hc1 : 0 ≤ (tF σ).1 (covK (gK σ)) ∧ (tF σ).1 (covK (gK σ)) < 1000 := hc1
      refine k_X7_plan_12 (fun _ => k_X7_plan_22 (fun q => k_X7_plan_34 (fun q2 => k_X7_plan_47 (fun q3 => k_X7_plan_64 ⟨_, rfl, ?_, hRu, hFw⟩) (fun q3 => k_X7_plan_55 (q1 := 77) (n2 := 12) ⟨_, rfl, ?_, hRu, hFw⟩)) (fun q2 => k_X7_plan_40 ⟨_, rfl, ?_, hRu, hFw⟩)) (fun q => k_X7_plan_27 ⟨_, rfl, ?_, hRu, hFw⟩)) (fun q => absurd q (by omega))
      · rw [if_neg q, if_neg q2]
        exact (ix_far _ _ (by omega)).symm
      · rw [if_neg q, if_neg q2]
        have r := RwM.ix _ 0 k h77 (by omega) (by show k < ((rowF (tF σ) (rS (gR σ) 0) 12 (covK (gK σ))).length : Int); omega)
        rw [Int.zero_add] at r
        exact r
      · rw [if_neg q, if_pos q2]; exact e26
      · rw [if_pos q]; exact e25
end
