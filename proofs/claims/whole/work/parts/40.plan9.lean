section
variable {Γ : Gm} {w : Wd}
theorem RwM.app {a : Nat} {b : Int} : ∀ (l : List Int) (i : Int), RwM w a i l → RwM (stI w a (i + l.length) b) a i (l ++ [b])
  | [], i, _ => ⟨by rw [show i + (([] : List Int).length : Int) = i by simp, wI_hit], trivial⟩
  | c :: l, i, h => by
    have q := RwM.app (b := b) l (i + 1) h.2
    have e : i + ((c :: l).length : Int) = i + 1 + (l.length : Int) := by simp only [List.length_cons]; omega
    rw [e]
    exact ⟨by rw [wI_skip (by omega)]; exact h.1, q⟩
theorem mbS.fr {P : Nat → Prop} {w u : Wd} (g : Fr P w u) (h63 : ¬ P 63) (h77 : ¬ P 77) : ∀ B : Option Tr, mbS w B → mbS u B
  | none, h => by
    unfold mbS at h ⊢
    rw [g.2.1 63 h63, g.2.1 63 h63, g.2.1 63 h63]; exact h
  | some t, h => by
    obtain ⟨h1, h2, h3⟩ := h
    exact ⟨by rw [g.2.1 63 h63, g.2.1 63 h63, g.2.1 63 h63]; exact h1, RwM.fr g h77 _ _ h2, h3⟩
def Pl (a : Nat) : Prop := a = 63 ∨ a = 76 ∨ a = 77
theorem sp_layPlan {σ : Sg} (h : RM w σ) (ok : okS σ) : SpV Γ m_X7_layPlan [vR 63] w (fun u => Fr Pl w u ∧ (∀ k, k ≠ 24 → k ≠ 25 → k ≠ 26 → wI u 63 k = wI w 63 k) ∧ ∃ B, mbS u B ∧ if rollK (gR σ) (gK σ) < (tF σ).1 (covK (gK σ)) then B = none else B = some ((tF σ).1 (covK (gK σ)), (tF σ).2.1 (covK (gK σ)), rowF (tF σ) (rS (gR σ) 0) 12 (covK (gK σ)))) := by
  obtain ⟨hM, hT, hA, -⟩ := id h
  obtain ⟨⟨c0, c1, c2, c3, c4, c5, c6, c7, c8, c9, c10, c11, c12, c13, c14⟩, d1, d2, d3, d4, d5, d6, d7, d8, d9, d10, d11, d12, d13, d14⟩ := id hM.1
  have o0 := ok.r.1
  have o2 := ok.r.2.2.1
  have hcn := ok.k.cnt ok.r
  have hcov := ok.k.2.1
  have hro := rollK_r ok.r ok.k
  have e9 : wI w 63 9 = rS (gR σ) 0 := hM.2.1
  have hdF : ((dF σ : Nat) : Int) = rS (gR σ) 0 - covK (gK σ) := by unfold dF; omega
  have hF0 : Fr Pl w (stI (stI (stI w 63 25 (-1)) 63 26 0) 63 24 0) := ((Fr.st (P := Pl) (Or.inl rfl)).trans (Fr.st (P := Pl) (Or.inl rfl))).trans (Fr.st (P := Pl) (Or.inl rfl))
  have es0 : ∀ k, k ≠ 24 → k ≠ 25 → k ≠ 26 → wI (stI (stI (stI w 63 25 (-1)) 63 26 0) 63 24 0) 63 k = wI w 63 k := fun k k1 k2 k3 => by rw [wI_skip k1, wI_skip k3, wI_skip k2]
  have frP : ∀ u : Wd, Fr Pl w u → (∀ k, k ≠ 24 → k ≠ 25 → k ≠ 26 → wI u 63 k = wI w 63 k) → RM u σ := fun u hF es => h.bst hF (fun a ha => by unfold Pl at ha; omega) es
  have hR0 := frP _ hF0 es0
  refine i_X7_layPlan (k_X7_layPlan_0 (q1 := 71) (sp_coveredIn hR0.2.2.1 ok.r ok.k) (fun q => k_X7_layPlan_42 ?_) (fun q => ?_))
  · rw [e9] at q ⊢
    generalize hw3 : stI (stI (stI w 63 25 (-1)) 63 26 0) 63 24 0 = w3 at hF0 es0 hR0 ⊢
    have hB0 : mbS w3 none := by rw [← hw3]; exact ⟨by rw [wI_skip (by decide), wI_skip (by decide), wI_hit], by rw [wI_skip (by decide), wI_hit], by rw [wI_hit]⟩
    obtain ⟨E, hE⟩ := Int.eq_ofNat_of_zero_le q
    rw [hE]
    have hz := zshl2 E (by omega)
    have h2 : 2 ^ E ≤ 2 ^ 11 := Nat.pow_le_pow_right (by decide) (by omega)
    have sets : ∀ (r n : Nat) (o4 o5 o6 o7 : Option Value) (v : Wd) (B : Option Tr), n + r = 2 ^ E → Fr Pl w v → (∀ k, k ≠ 24 → k ≠ 25 → k ≠ 26 → wI v 63 k = wI w 63 k) → mbS v B → BP (gR σ) (rollK (gR σ) (gK σ)) (covK (gK σ)) E n B → G Γ m_X7_layPlan (fun v u => v = none ∧ Fr Pl w u ∧ (∀ k, k ≠ 24 → k ≠ 25 → k ≠ 26 → wI u 63 k = wI w 63 k) ∧ ∃ B, mbS u B ∧ if rollK (gR σ) (gK σ) < (tF σ).1 (covK (gK σ)) then B = none else B = some ((tF σ).1 (covK (gK σ)), (tF σ).2.1 (covK (gK σ)), rowF (tF σ) (rS (gR σ) 0) 12 (covK (gK σ)))) 0 0 44 [some (vR 63), some (vI (covK (gK σ))), some (vI E), some (vI n), o4, o5, o6, o7] [] v := by
      intro r
      induction r with
      | zero =>
        intro n o4 o5 o6 o7 v B hn hF es hB hBP
        have en : n = 2 ^ E := by omega
        have hnI : (n : Int) ≤ 2048 := by omega
        rw [en] at hBP
        exact k_X7_layPlan_44 (fun _ => k_X7_layPlan_150 ⟨rfl, hF, es, B, hB, BP_end ok.r rfl (by omega) hdF (by omega) hBP⟩) (fun q => absurd (show zshl 1 (E : Int) ≤ n by rw [hz, en]; exact Int.le_refl _) q)
      | succ r ih =>
        intro n o4 o5 o6 o7 v B hn hF es hB hBP
        have hnI : (n : Int) < 2048 := by omega
        have hnE : n < 2 ^ E := by omega
        refine k_X7_layPlan_44 (fun q => absurd q (by rw [hz]; omega)) (fun _ => k_X7_layPlan_51 ?_)
        have next : ∀ (o4 o5 o6 o7 : Option Value) (x : Wd) (B2 : Option Tr), Fr Pl w x → (∀ k, k ≠ 24 → k ≠ 25 → k ≠ 26 → wI x 63 k = wI w 63 k) → mbS x B2 → BP (gR σ) (rollK (gR σ) (gK σ)) (covK (gK σ)) E (n + 1) B2 → G Γ m_X7_layPlan (fun v u => v = none ∧ Fr Pl w u ∧ (∀ k, k ≠ 24 → k ≠ 25 → k ≠ 26 → wI u 63 k = wI w 63 k) ∧ ∃ B, mbS u B ∧ if rollK (gR σ) (gK σ) < (tF σ).1 (covK (gK σ)) then B = none else B = some ((tF σ).1 (covK (gK σ)), (tF σ).2.1 (covK (gK σ)), rowF (tF σ) (rS (gR σ) 0) 12 (covK (gK σ)))) 0 0 44 [some (vR 63), some (vI (covK (gK σ))), some (vI E), some (vI ((n : Int) + 1)), o4, o5, o6, o7] [] x := by
          intro o4 o5 o6 o7 x B2 hFx esx hBx hBPx
          have hh := ih (n + 1) o4 o5 o6 o7 x B2 (by omega) hFx esx hBx hBPx
          rw [Int.natCast_add] at hh
          exact hh
        have inner : ∀ (r k : Nat) (x : Wd), k + r = E + 1 → Fr Pl w x → (∀ k, k ≠ 24 → k ≠ 25 → k ≠ 26 → wI x 63 k = wI w 63 k) → mbS x B → RwM x 76 0 (gst (rS (gR σ) 2) E n k).1 → G Γ m_X7_layPlan (fun v u => v = none ∧ Fr Pl w u ∧ (∀ k, k ≠ 24 → k ≠ 25 → k ≠ 26 → wI u 63 k = wI w 63 k) ∧ ∃ B, mbS u B ∧ if rollK (gR σ) (gK σ) < (tF σ).1 (covK (gK σ)) then B = none else B = some ((tF σ).1 (covK (gK σ)), (tF σ).2.1 (covK (gK σ)), rowF (tF σ) (rS (gR σ) 0) 12 (covK (gK σ)))) 0 0 63 [some (vR 63), some (vI (covK (gK σ))), some (vI E), some (vI n), some (vI ((gst (rS (gR σ) 2) E n k).1.length : Nat)), some (vI (gst (rS (gR σ) 2) E n k).2.1), some (vI (gst (rS (gR σ) 2) E n k).2.2), some (vI k)] [] x := by
          intro r
          induction r with
          | zero =>
            intro k x hk hFx esx hBx hrow
            have hk : k = E + 1 := by omega
            subst hk
            have hRx := frP x hFx esx
            obtain ⟨⟨c0, c1, c2, c3, c4, c5, c6, c7, c8, c9, c10, c11, c12, c13, c14⟩, d1, d2, d3, d4, d5, d6, d7, d8, d9, d10, d11, d12, d13, d14⟩ := id hRx.1.1
            have g := gst_ok (bro := rS (gR σ) 2) (E := E) (set := (n : Int)) o2.1 (E + 1)
            have g0 : (gst (rS (gR σ) 2) E n (E + 1)).2.1 = 0 := by
              show (stp (rS (gR σ) 2) E n E (gst (rS (gR σ) 2) E n E)).2.1 = 0
              unfold stp
              rw [if_pos (Or.inl rfl)]
            have gb := g.2.2.1
            refine k_X7_layPlan_63 (fun _ => k_X7_layPlan_131 (fun q => k_X7_layPlan_144 (next _ _ _ _ x B hFx esx hBx (BP_skip hBP (fun q2 => by have := q2.1; omega)))) (fun q => ?_)) (fun q => absurd q (by omega))
            have g1 := g.2.2.2.1.1 (by omega)
            have g2 := g.1.2
            rw [g0] at g2
            have hokl : okL (gR σ) (rS (gR σ) 0) (covK (gK σ)) (gst (rS (gR σ) 2) E n (E + 1)).1 := okL_of _ _ g.2.1 g1.2 (by omega)
            refine k_X7_layPlan_136 (sp_covers hRx.1 hRx.2.2.1 ok.r ok.k rfl (by omega) rfl hokl hrow hBx) (fun z y hy => k_X7_layPlan_143 ?_)
            obtain ⟨hFy, esy, B2, hB2, hcase⟩ := hy
            refine next _ _ _ _ y B2 (hFx.trans (hFy.mono (fun a ha => by unfold Pl; omega))) (fun k k1 k2 k3 => (esy k k1 k2 k3).trans (esx k k1 k2 k3)) hB2 ?_
            rcases hcase with ⟨q1, q2⟩ | ⟨q1, ⟨b, b1, b2, b3⟩ | ⟨q2, q3⟩⟩
            · rw [q2]; exact BP_skip hBP (fun q3 => q1 q3.2)
            · rw [b3, b1]; rw [b1] at hBP; exact BP_keep hBP b2
            · rw [q3]; exact BP_take hBP ⟨by omega, q1⟩ q2
          | succ r ihr =>
            intro k x hk hFx esx hBx hrow
            have hRx := frP x hFx esx
            obtain ⟨⟨c0, c1, c2, c3, c4, c5, c6, c7, c8, c9, c10, c11, c12, c13, c14⟩, d1, d2, d3, d4, d5, d6, d7, d8, d9, d10, d11, d12, d13, d14⟩ := id hRx.1.1
            obtain ⟨⟨g1, g2⟩, g3, g4, g5, g6⟩ := gst_ok (bro := rS (gR σ) 2) (E := E) (set := (n : Int)) o2.1 k
            have g0 := hRx.1.2.2.2.1 0 (by omega) (by omega)
            rw [show (0 : Int) + 2 = 2 by rfl] at g0
            have apnd : (k = E ∨ bit n k = 1) → ∀ f : Int, f = (if (gst (rS (gR σ) 2) E n k).2.2 = 0 then (0 : Int) else if rS (gR σ) 2 < (gst (rS (gR σ) 2) E n k).2.1 + 1 then 0 else 1) → G Γ m_X7_layPlan (fun v u => v = none ∧ Fr Pl w u ∧ (∀ k, k ≠ 24 → k ≠ 25 → k ≠ 26 → wI u 63 k = wI w 63 k) ∧ ∃ B, mbS u B ∧ if rollK (gR σ) (gK σ) < (tF σ).1 (covK (gK σ)) then B = none else B = some ((tF σ).1 (covK (gK σ)), (tF σ).2.1 (covK (gK σ)), rowF (tF σ) (rS (gR σ) 0) 12 (covK (gK σ)))) 0 0 110 [some (vR 63), some (vI (covK (gK σ))), some (vI E), some (vI n), some (vI ((gst (rS (gR σ) 2) E n k).1.length : Nat)), some (vI ((gst (rS (gR σ) 2) E n k).2.1 + 1)), some (vI f), some (vI k)] [] x := by
              intro q f hf
              have e : gst (rS (gR σ) 2) E n (k + 1) = ((gst (rS (gR σ) 2) E n k).1 ++ [(gst (rS (gR σ) 2) E n k).2.1 + 1], 0, (if (gst (rS (gR σ) 2) E n k).2.2 = 0 then (0 : Int) else if rS (gR σ) 2 < (gst (rS (gR σ) 2) E n k).2.1 + 1 then 0 else 1)) := if_pos q
              have hF1 : Fr (fun a => a = 76) x (stI x 76 ((gst (rS (gR σ) 2) E n k).1.length : Nat) ((gst (rS (gR σ) 2) E n k).2.1 + 1)) := Fr.st rfl
              have hro := RwM.app (b := (gst (rS (gR σ) 2) E n k).2.1 + 1) _ 0 hrow
              rw [Int.zero_add] at hro
              have hh := ihr (k + 1) _ (by omega) (hFx.trans (hF1.mono (fun a ha => Or.inr (Or.inl ha)))) (fun j k1 k2 k3 => (hF1.2.1 63 (by decide) j).trans (esx j k1 k2 k3)) (mbS.fr hF1 (by decide) (by decide) B hBx) (by rw [e]; exact hro)
              rw [e, ← hf] at hh
              simp only [List.length_append, List.length_cons, List.length_nil, Int.natCast_add] at hh
              exact k_X7_layPlan_110 (q1 := 76) (n2 := 12) hh
            have cont : ¬ (k = E ∨ bit n k = 1) → ∀ f : Int, f = (if (gst (rS (gR σ) 2) E n k).2.2 = 0 then (0 : Int) else if rS (gR σ) 2 < (gst (rS (gR σ) 2) E n k).2.1 + 1 then 0 else 1) → G Γ m_X7_layPlan (fun v u => v = none ∧ Fr Pl w u ∧ (∀ k, k ≠ 24 → k ≠ 25 → k ≠ 26 → wI u 63 k = wI w 63 k) ∧ ∃ B, mbS u B ∧ if rollK (gR σ) (gK σ) < (tF σ).1 (covK (gK σ)) then B = none else B = some ((tF σ).1 (covK (gK σ)), (tF σ).2.1 (covK (gK σ)), rowF (tF σ) (rS (gR σ) 0) 12 (covK (gK σ)))) 0 0 125 [some (vR 63), some (vI (covK (gK σ))), some (vI E), some (vI n), some (vI ((gst (rS (gR σ) 2) E n k).1.length : Nat)), some (vI ((gst (rS (gR σ) 2) E n k).2.1 + 1)), some (vI f), some (vI k)] [] x := by
              intro q f hf
              have e : gst (rS (gR σ) 2) E n (k + 1) = ((gst (rS (gR σ) 2) E n k).1, (gst (rS (gR σ) 2) E n k).2.1 + 1, (if (gst (rS (gR σ) 2) E n k).2.2 = 0 then (0 : Int) else if rS (gR σ) 2 < (gst (rS (gR σ) 2) E n k).2.1 + 1 then 0 else 1)) := if_neg q
              have hh := ihr (k + 1) x (by omega) hFx esx hBx (by rw [e]; exact hrow)
              rw [e, ← hf, Int.natCast_add] at hh
              exact k_X7_layPlan_125 hh
            have hha := sp_has (Γ := Γ) (w := x) (s := (n : Int)) (i := (k : Int))
            have h101 : ¬ k = E → ∀ f : Int, f = (if (gst (rS (gR σ) 2) E n k).2.2 = 0 then (0 : Int) else if rS (gR σ) 2 < (gst (rS (gR σ) 2) E n k).2.1 + 1 then 0 else 1) → G Γ m_X7_layPlan (fun v u => v = none ∧ Fr Pl w u ∧ (∀ k, k ≠ 24 → k ≠ 25 → k ≠ 26 → wI u 63 k = wI w 63 k) ∧ ∃ B, mbS u B ∧ if rollK (gR σ) (gK σ) < (tF σ).1 (covK (gK σ)) then B = none else B = some ((tF σ).1 (covK (gK σ)), (tF σ).2.1 (covK (gK σ)), rowF (tF σ) (rS (gR σ) 0) 12 (covK (gK σ)))) 0 0 101 [some (vR 63), some (vI (covK (gK σ))), some (vI E), some (vI n), some (vI ((gst (rS (gR σ) 2) E n k).1.length : Nat)), some (vI ((gst (rS (gR σ) 2) E n k).2.1 + 1)), some (vI f), some (vI k)] [] x := fun hne f hf => by
              by_cases hb : bit n k = 1
              · rw [if_pos hb] at hha
                exact k_X7_layPlan_101 hha (fun q => absurd q (by decide)) (fun _ => apnd (Or.inr hb) f hf)
              · rw [if_neg hb] at hha
                exact k_X7_layPlan_101 hha (fun _ => cont (fun q => by rcases q with q | q; exact hne q; exact hb q) f hf) (fun q => absurd rfl q)
            refine k_X7_layPlan_63 (fun q => absurd q (by omega)) (fun _ => k_X7_layPlan_69 (fun q => ?_) (fun q => k_X7_layPlan_77 (q1 := 70) (n2 := 6) (fun q2 => ?_) (fun q2 => ?_)))
            · have hf : (0 : Int) = (if (gst (rS (gR σ) 2) E n k).2.2 = 0 then (0 : Int) else if rS (gR σ) 2 < (gst (rS (gR σ) 2) E n k).2.1 + 1 then 0 else 1) := (if_pos q).symm
              rw [q]
              exact k_X7_layPlan_92 (fun q3 => apnd (Or.inl (by omega)) 0 hf) (fun q3 => h101 (by omega) 0 hf)
            · have hf : (0 : Int) = (if (gst (rS (gR σ) 2) E n k).2.2 = 0 then (0 : Int) else if rS (gR σ) 2 < (gst (rS (gR σ) 2) E n k).2.1 + 1 then 0 else 1) := ((if_neg q).trans (if_pos (by omega))).symm
              exact k_X7_layPlan_92 (fun q3 => apnd (Or.inl (by omega)) 0 hf) (fun q3 => h101 (by omega) 0 hf)
            · have hf : (1 : Int) = (if (gst (rS (gR σ) 2) E n k).2.2 = 0 then (0 : Int) else if rS (gR σ) 2 < (gst (rS (gR σ) 2) E n k).2.1 + 1 then 0 else 1) := ((if_neg q).trans (if_neg (by omega))).symm
              exact k_X7_layPlan_88 (fun q3 => apnd (Or.inl (by omega)) 1 hf) (fun q3 => h101 (by omega) 1 hf)
        exact inner (E + 1) 0 v (by omega) hF es hB trivial
    exact sets (2 ^ E) 0 _ _ _ _ w3 none (by omega) hF0 es0 hB0 BP_0
  · rw [e9] at q ⊢
    have ea : covK (gK σ) = rS (gR σ) 0 := by omega
    have hfix := tb_fix (ρ := gR σ) ok.r rfl (dF σ) (by omega)
    have t1 : (tF σ).1 (covK (gK σ)) = 0 := by rw [ea]; exact hfix.1
    have t2 : (tF σ).2.1 (covK (gK σ)) = 0 := by rw [ea]; exact hfix.2.1
    have t3 : rowF (tF σ) (rS (gR σ) 0) 12 (covK (gK σ)) = [] := if_pos (by omega)
    have s63 : sh (stI (stI (stI w 63 25 (-1)) 63 26 0) 63 24 0) 63 = some (.inr 7) := c0
    refine k_X7_layPlan_36 ⟨rfl, hF0.trans (Fr.st (P := Pl) (Or.inl rfl)), fun k k1 k2 k3 => by rw [wI_skip k2]; exact es0 k k1 k2 k3, some (0, 0, []), ⟨⟨by rw [wI_hit], by rw [wI_skip (by decide), wI_skip (by decide), wI_hit], by rw [wI_skip (by decide), wI_hit]; rfl⟩, trivial, ⟨by decide, fun x hx => absurd hx (List.not_mem_nil)⟩, by decide, by decide⟩, ?_⟩
    rw [t1, t2, t3, if_neg (by omega)]
end
