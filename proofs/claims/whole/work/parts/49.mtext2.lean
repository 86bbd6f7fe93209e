section
variable {Γ : Gm} {w : Wd}
/-- how an item ends in the model -/
abbrev ItQ (w : Wd) (C : Prop) (q : Int) (ρ' : Rm) : Int → Wd → Prop := fun z u => FrT w u ∧ ((z = 1 ∧ C ∧ wI u 63 2 = q ∧ DrM u ρ') ∨ (z = 0 ∧ ¬ C))
theorem sp_isOne {t : Tx} {ρ : Rm} {p i a b : Int} (hD : DrM w ρ) (hT : TxM w t) (okt : okX t) (hp : 0 ≤ p ∧ p < 900) (e2 : wI w 63 2 = p) (hi : 0 ≤ i ∧ i < 6) (ha : 0 ≤ a ∧ a ≤ 99) (hb : 0 ≤ b ∧ b ≤ 99) : SpI Γ m_X7_isOne [vR 63, vI i, vI a, vI b] w (ItQ w (nuR t p 59 a b) (nxF t p) (set1 ρ (i + 2) (nmF t p))) := by
  have c0 := hD.1.1.1
  refine i_X7_isOne (k_X7_isOne_0 (sp_isNumber hD.1 hT okt hp e2 ha hb (by omega)) (fun z u hu => ?_))
  obtain ⟨hF, ⟨rfl, hn, u2, u3⟩ | ⟨rfl, hn⟩⟩ := hu
  · have hDu := hD.fr hF
    obtain ⟨⟨x0, x1, x2, x3, x4, -⟩, y1, y2, y3, y4, -⟩ := id hDu.1
    refine k_X7_isOne_8 (fun _ => k_X7_isOne_13 (q1 := 67) (n2 := 6) ⟨_, rfl, hF.t.trans (FrT.sta (by decide)), Or.inl ⟨rfl, hn, ?_, ?_⟩⟩) (fun q => absurd q (by decide))
    · rw [wI_st_ne (by decide)]; exact u2
    · rw [u3]; exact hDu.set1 hi
  · exact k_X7_isOne_8 (fun q => absurd rfl q) (fun _ => k_X7_isOne_11 ⟨_, rfl, hF.t, Or.inr ⟨rfl, hn⟩⟩)
theorem sp_isPair {t : Tx} {ρ : Rm} {p i a b a' b' : Int} (hD : DrM w ρ) (hT : TxM w t) (okt : okX t) (hp : 0 ≤ p ∧ p < 800) (e2 : wI w 63 2 = p) (hi : 0 ≤ i ∧ i < 5) (ha : 0 ≤ a ∧ a ≤ 99) (hb : 0 ≤ b ∧ b ≤ 99) (ha' : 0 ≤ a' ∧ a' ≤ 99) (hb' : 0 ≤ b' ∧ b' ≤ 99) : SpI Γ m_X7_isPair [vR 63, vI i, vI a, vI b, vI a', vI b'] w (ItQ w (nuR t p 44 a b ∧ nuR t (nxF t p) 59 a' b') (nxF t (nxF t p)) (set1 (set1 ρ (i + 2) (nmF t p)) (i + 1 + 2) (nmF t (nxF t p)))) := by
  have c0 := hD.1.1.1
  have n1 := nx_r t p
  refine i_X7_isPair (k_X7_isPair_0 (sp_isNumber hD.1 hT okt (by omega) e2 ha hb (by omega)) (fun z u hu => ?_))
  obtain ⟨hF, ⟨rfl, hn, u2, u3⟩ | ⟨rfl, hn⟩⟩ := hu
  rotate_left
  · exact k_X7_isPair_8 (fun q => absurd rfl q) (fun _ => k_X7_isPair_11 ⟨_, rfl, hF.t, Or.inr ⟨rfl, fun y => hn y.1⟩⟩)
  have hDu := hD.fr hF
  have hTu := hT.frT hF.t
  have x0 := hDu.1.1.1
  refine k_X7_isPair_8 (fun _ => ?_) (fun q => absurd q (by decide))
  refine k_X7_isPair_13 (sp_isNumber hDu.1 hTu okt (by omega) u2 ha' hb' (by omega)) (fun z v hv => ?_)
  rw [u3]
  obtain ⟨hG, ⟨rfl, hn', v2, v3⟩ | ⟨rfl, hn'⟩⟩ := hv
  rotate_left
  · exact k_X7_isPair_29 (fun q => absurd rfl q) (fun _ => k_X7_isPair_32 ⟨_, rfl, (hF.trans hG).t, Or.inr ⟨rfl, fun y => hn' y.2⟩⟩)
  have hDv := hDu.fr hG
  obtain ⟨⟨x0, x1, x2, x3, x4, -⟩, y1, y2, y3, y4, -⟩ := id hDv.1
  refine k_X7_isPair_29 (fun _ => k_X7_isPair_34 (q1 := 67) (n2 := 6) ⟨_, rfl, ((hF.trans hG).t.trans (FrT.sta (by decide))).trans (FrT.sta (by decide)), Or.inl ⟨rfl, ⟨hn, hn'⟩, ?_, ?_⟩⟩) (fun q => absurd q (by decide))
  · rw [wI_st_ne (by decide), wI_st_ne (by decide)]; exact v2
  · rw [wI_st_ne (by decide), v3]; exact (hDv.set1 (i := i) (by omega)).set1 (i := i + 1) (by omega)
theorem sp_isDampItem {t : Tx} {ρ : Rm} {p : Int} (hD : DrM w ρ) (ok : okD ρ) (hT : TxM w t) (okt : okX t) (hp : 0 ≤ p ∧ p < 800) (e2 : wI w 63 2 = p) : SpI Γ m_X7_isDampItem [vR 63] w (ItQ w (rS ρ 1 < 12 ∧ nuR t p 59 0 9) (nxF t p) (addD ρ (nmF t p))) := by
  have c0 := hD.1.1.1
  have o1 := ok.2.1
  have e5 := hD.2.2.1
  refine i_X7_isDampItem (k_X7_isDampItem_0 (fun q => k_X7_isDampItem_21 ⟨_, rfl, FrT.rfl, Or.inr ⟨rfl, fun y => by omega⟩⟩) (fun q => ?_))
  refine k_X7_isDampItem_9 (sp_isNumber hD.1 hT okt (by omega) e2 (by omega) (by omega) (by omega)) (fun z u hu => ?_)
  obtain ⟨hF, ⟨rfl, hn, u2, u3⟩ | ⟨rfl, hn⟩⟩ := hu
  rotate_left
  · exact k_X7_isDampItem_18 (fun q => absurd rfl q) (fun _ => k_X7_isDampItem_21 ⟨_, rfl, hF.t, Or.inr ⟨rfl, fun y => hn y.2⟩⟩)
  have hDu := hD.fr hF
  have u5 := hDu.2.2.1
  obtain ⟨⟨x0, x1, x2, x3, x4, -⟩, y1, y2, y3, y4, -⟩ := id hDu.1
  refine k_X7_isDampItem_18 (fun _ => k_X7_isDampItem_23 (q1 := 66) (n2 := 12) ?_) (fun q => absurd q (by decide))
  rw [wI_st_ne (by decide), u5, u3]
  exact ⟨_, rfl, (hF.t.trans (FrT.sta (by decide))).trans (FrT.st (by decide)), Or.inl ⟨rfl, ⟨by omega, hn⟩, by rw [wI_skip (by decide), wI_st_ne (by decide)]; exact u2, hDu.stD⟩⟩
theorem si_step {Ret : Option Value → Wd → Prop} {t : Tx} {ρ : Rm} {p k lo hi e : Int} (hD : DrM w ρ) (ok : okD ρ) (h0 : rS ρ 0 < 12) (hT : TxM w t) (okt : okX t) (hp : 0 ≤ p ∧ p < 900) (e2 : wI w 63 2 = p) (hk : (k = 0 ∧ lo = 1 ∧ hi = 40 ∧ e = 44) ∨ (k = 1 ∧ lo = 0 ∧ hi = 9 ∧ e = 44) ∨ (k = 2 ∧ lo = 0 ∧ hi = 9 ∧ e = 59))
    (kf : ¬ nuR t p e lo hi → ∀ u, FrT w u → Ret (some (vI 0)) u)
    (kt : nuR t p e lo hi → ∀ u, FrN w u → wI u 63 2 = nxF t p → G Γ m_X7_isStripItem Ret 0 0 20 [some (vR 63), some (vI (3 * rS ρ 0)), some (vI (k + 1))] [] (stI u 65 (3 * rS ρ 0 + k) (nmF t p))) :
    G Γ m_X7_isStripItem Ret 0 0 20 [some (vR 63), some (vI (3 * rS ρ 0)), some (vI k)] [] w := by
  have c0 := hD.1.1.1
  have o0 := ok.1
  have hend : ∀ z u, (FrN w u ∧ ((z = 1 ∧ nuR t p e lo hi ∧ wI u 63 2 = nxF t p ∧ wI u 63 3 = nmF t p) ∨ (z = 0 ∧ ¬ nuR t p e lo hi))) → G Γ m_X7_isStripItem Ret 0 0 61 [some (vR 63), some (vI (3 * rS ρ 0)), some (vI k)] [vI z] u := by
    intro z u hu
    obtain ⟨hF, ⟨rfl, hn, u2, u3⟩ | ⟨rfl, hn⟩⟩ := hu
    rotate_left
    · exact k_X7_isStripItem_61 (fun q => absurd rfl q) (fun _ => k_X7_isStripItem_64 (kf hn u hF.t))
    have hDu := hD.fr hF
    obtain ⟨⟨x0, x1, x2, x3, x4, -⟩, y1, y2, y3, y4, -⟩ := id hDu.1
    refine k_X7_isStripItem_61 (fun _ => k_X7_isStripItem_66 (q1 := 65) (n2 := 36) ?_) (fun q => absurd q (by decide))
    rw [u3]
    exact kt hn u hF u2
  refine k_X7_isStripItem_20 (fun q => absurd q (by omega)) (fun _ => ?_)
  rcases hk with ⟨rfl, rfl, rfl, rfl⟩ | ⟨rfl, rfl, rfl, rfl⟩ | ⟨rfl, rfl, rfl, rfl⟩
  · exact k_X7_isStripItem_25 (fun q => absurd rfl q) (fun _ => k_X7_isStripItem_30 (fun q => absurd rfl q) (fun _ => k_X7_isStripItem_39 (fun _ => k_X7_isStripItem_56 (sp_isNumber hD.1 hT okt hp e2 (by omega) (by omega) (by omega)) hend) (fun q => absurd q (by decide))))
  · exact k_X7_isStripItem_25 (fun _ => k_X7_isStripItem_34 (fun _ => k_X7_isStripItem_44 (fun _ => k_X7_isStripItem_56 (sp_isNumber hD.1 hT okt hp e2 (by omega) (by omega) (by omega)) hend) (fun q => absurd q (by decide))) (fun q => absurd q (by decide))) (fun q => absurd q (by decide))
  · exact k_X7_isStripItem_25 (fun _ => k_X7_isStripItem_34 (fun _ => k_X7_isStripItem_44 (fun q => absurd rfl q) (fun _ => k_X7_isStripItem_51 (sp_isNumber hD.1 hT okt hp e2 (by omega) (by omega) (by omega)) hend)) (fun q => absurd q (by decide))) (fun q => absurd q (by decide))
theorem sp_isStripItem {t : Tx} {ρ : Rm} {p : Int} (hD : DrM w ρ) (ok : okD ρ) (hT : TxM w t) (okt : okX t) (hp : 0 ≤ p ∧ p < 800) (e2 : wI w 63 2 = p) : SpI Γ m_X7_isStripItem [vR 63] w (ItQ w (rS ρ 0 < 12 ∧ nuR t p 44 1 40 ∧ nuR t (nxF t p) 44 0 9 ∧ nuR t (nxF t (nxF t p)) 59 0 9) (nxF t (nxF t (nxF t p))) (addS ρ (nmF t p) (nmF t (nxF t p)) (nmF t (nxF t (nxF t p))))) := by
  have c0 := hD.1.1.1
  have o0 := ok.1
  have e4 := hD.2.1
  have n1 := nx_r t p
  have n2 := nx_r t (nxF t p)
  refine i_X7_isStripItem (k_X7_isStripItem_0 (fun q => k_X7_isStripItem_18 ?_) (fun q => k_X7_isStripItem_16 ⟨_, rfl, FrT.rfl, Or.inr ⟨rfl, fun y => by omega⟩⟩))
  rw [e4]
  have h0 : rS ρ 0 < 12 := by omega
  refine si_step (k := 0) hD ok h0 hT okt (by omega) e2 (Or.inl ⟨rfl, rfl, rfl, rfl⟩) (fun q u hu => ⟨_, rfl, hu, Or.inr ⟨rfl, fun y => q y.2.1⟩⟩) (fun g1 u1 hF1 w2 => ?_)
  have f1 : FrT w (stI u1 65 (3 * rS ρ 0 + 0) (nmF t p)) := hF1.t.trans (FrT.sta (by decide))
  have D1 : DrM (stI u1 65 (3 * rS ρ 0 + 0) (nmF t p)) ρ := (hD.fr hF1).st65 (by omega)
  have T1 := hT.frT f1
  have p1 : wI (stI u1 65 (3 * rS ρ 0 + 0) (nmF t p)) 63 2 = nxF t p := by rw [wI_st_ne (by decide)]; exact w2
  have v1 : wI (stI u1 65 (3 * rS ρ 0 + 0) (nmF t p)) 65 (3 * rS ρ 0) = nmF t p := by rw [Int.add_zero]; exact wI_hit
  generalize stI u1 65 (3 * rS ρ 0 + 0) (nmF t p) = x1 at *
  refine si_step (k := 1) D1 ok h0 T1 okt (by omega) p1 (Or.inr (Or.inl ⟨rfl, rfl, rfl, rfl⟩)) (fun q u hu => ⟨_, rfl, f1.trans hu, Or.inr ⟨rfl, fun y => q y.2.2.1⟩⟩) (fun g2 u2 hF2 w3 => ?_)
  have f2 : FrT w (stI u2 65 (3 * rS ρ 0 + 1) (nmF t (nxF t p))) := (f1.trans hF2.t).trans (FrT.sta (by decide))
  have D2 : DrM (stI u2 65 (3 * rS ρ 0 + 1) (nmF t (nxF t p))) ρ := (D1.fr hF2).st65 (by omega)
  have T2 := hT.frT f2
  have p2 : wI (stI u2 65 (3 * rS ρ 0 + 1) (nmF t (nxF t p))) 63 2 = nxF t (nxF t p) := by rw [wI_st_ne (by decide)]; exact w3
  have v21 : wI (stI u2 65 (3 * rS ρ 0 + 1) (nmF t (nxF t p))) 65 (3 * rS ρ 0) = nmF t p := by rw [wI_skip (by omega), hF2.1.2.1 65 (by decide)]; exact v1
  have v22 : wI (stI u2 65 (3 * rS ρ 0 + 1) (nmF t (nxF t p))) 65 (3 * rS ρ 0 + 1) = nmF t (nxF t p) := wI_hit
  generalize stI u2 65 (3 * rS ρ 0 + 1) (nmF t (nxF t p)) = x2 at *
  refine si_step (k := 2) D2 ok h0 T2 okt (by omega) p2 (Or.inr (Or.inr ⟨rfl, rfl, rfl, rfl⟩)) (fun q u hu => ⟨_, rfl, f2.trans hu, Or.inr ⟨rfl, fun y => q y.2.2.2⟩⟩) (fun g3 u3 hF3 w4 => ?_)
  have f3 : FrT w (stI u3 65 (3 * rS ρ 0 + 2) (nmF t (nxF t (nxF t p)))) := (f2.trans hF3.t).trans (FrT.sta (by decide))
  have D3 : DrM (stI u3 65 (3 * rS ρ 0 + 2) (nmF t (nxF t (nxF t p)))) ρ := (D2.fr hF3).st65 (by omega)
  have p3 : wI (stI u3 65 (3 * rS ρ 0 + 2) (nmF t (nxF t (nxF t p)))) 63 2 = nxF t (nxF t (nxF t p)) := by rw [wI_st_ne (by decide)]; exact w4
  have v31 : wI (stI u3 65 (3 * rS ρ 0 + 2) (nmF t (nxF t (nxF t p)))) 65 (3 * rS ρ 0) = nmF t p := by rw [wI_skip (by omega), hF3.1.2.1 65 (by decide)]; exact v21
  have v32 : wI (stI u3 65 (3 * rS ρ 0 + 2) (nmF t (nxF t (nxF t p)))) 65 (3 * rS ρ 0 + 1) = nmF t (nxF t p) := by rw [wI_skip (by omega), hF3.1.2.1 65 (by decide)]; exact v22
  have v33 : wI (stI u3 65 (3 * rS ρ 0 + 2) (nmF t (nxF t (nxF t p)))) 65 (3 * rS ρ 0 + 2) = nmF t (nxF t (nxF t p)) := wI_hit
  generalize stI u3 65 (3 * rS ρ 0 + 2) (nmF t (nxF t (nxF t p))) = x3 at *
  have z0 := D3.1.1.1
  have z4 := D3.2.1
  refine k_X7_isStripItem_20 (fun _ => k_X7_isStripItem_84 ?_) (fun q => absurd q (by decide))
  rw [z4]
  exact ⟨_, rfl, f3.trans (FrT.st (by decide)), Or.inl ⟨rfl, ⟨h0, g1, g2, g3⟩, by rw [wI_skip (by decide)]; exact p3, D3.stS v31 v32 v33⟩⟩
theorem sp_isItem {t : Tx} {ρ : Rm} {p : Int} (hD : DrM w ρ) (ok : okD ρ) (hT : TxM w t) (okt : okX t) (hp : 0 ≤ p ∧ p < 700) (e2 : wI w 63 2 = p) : SpI Γ m_X7_isItem [vR 63] w (fun z u => FrT w u ∧ ((z = 1 ∧ ∃ q, itF t ρ p = some q ∧ wI u 63 2 = q.1 ∧ DrM u q.2) ∨ (z = 0 ∧ itF t ρ p = none))) := by
  have c0 := hD.1.1.1
  have hl := lt_r okt (p := p) (by omega)
  have f0 : FrN w (stI w 63 2 (p + 1)) := FrN.st (Or.inl rfl)
  have hD0 := hD.fr f0
  have hT0 := hT.frT f0.t
  have x2 : wI (stI w 63 2 (p + 1)) 63 2 = p + 1 := wI_hit
  have x0 := hD0.1.1.1
  have fin : ∀ {C : Prop} {q : Int} {ρ' : Rm}, (C → itF t ρ p = some (q, ρ')) → (¬ C → itF t ρ p = none) → ∀ z u, ItQ (stI w 63 2 (p + 1)) C q ρ' z u → (z = 0 ∨ z = 1) ∧ (FrT w u ∧ ((z = 1 ∧ ∃ q, itF t ρ p = some q ∧ wI u 63 2 = q.1 ∧ DrM u q.2) ∨ (z = 0 ∧ itF t ρ p = none))) := by
    intro C q ρ' hC1 hC2 z u hu
    obtain ⟨hF, ⟨rfl, hc, h2, h3⟩ | ⟨rfl, hc⟩⟩ := hu
    · exact ⟨Or.inr rfl, f0.t.trans hF, Or.inl ⟨rfl, _, hC1 hc, h2, h3⟩⟩
    · exact ⟨Or.inl rfl, f0.t.trans hF, Or.inr ⟨rfl, hC2 hc⟩⟩
  refine i_X7_isItem (k_X7_isItem_0 (z1 := ltF t p) (by rw [e2]; exact sp_mlet hD.1 hT okt (by omega)) (fun h => ?_) (fun h => ?_) (fun h => ?_) (fun h => ?_) (fun h => ?_) (fun h => ?_) (fun h => ?_))
  · rw [e2]
    have e := itF_s (ρ := ρ) h
    refine k_X7_isItem_100 (sp_isStripItem hD0 ok hT0 okt (by omega) x2) (fun z u hu => ?_)
    have g := fin (fun c => by rw [e, if_pos c]) (fun c => by rw [e, if_neg c]) z u hu
    have g1 := g.1
    exact k_X7_isItem_104 ⟨_, rfl, g.2⟩
  · rw [e2]
    have e := itF_r (ρ := ρ) h
    refine k_X7_isItem_105 (sp_isPair (i := 0) hD0 hT0 okt (by omega) x2 (by omega) (by omega) (by omega) (by omega) (by omega)) (fun z u hu => ?_)
    have g := fin (fun c => by rw [e, if_pos c]; rfl) (fun c => by rw [e, if_neg c]) z u hu
    have g1 := g.1
    exact k_X7_isItem_116 ⟨_, rfl, g.2⟩
  · rw [e2]
    have e := itF_o (ρ := ρ) h
    refine k_X7_isItem_117 (sp_isOne (i := 2) hD0 hT0 okt (by omega) x2 (by omega) (by omega) (by omega)) (fun z u hu => ?_)
    have g := fin (fun c => by rw [e, if_pos c]; rfl) (fun c => by rw [e, if_neg c]) z u hu
    have g1 := g.1
    exact k_X7_isItem_124 ⟨_, rfl, g.2⟩
  · rw [e2]
    have e := itF_h (ρ := ρ) h
    refine k_X7_isItem_125 (sp_isOne (i := 3) hD0 hT0 okt (by omega) x2 (by omega) (by omega) (by omega)) (fun z u hu => ?_)
    have g := fin (fun c => by rw [e, if_pos c]; rfl) (fun c => by rw [e, if_neg c]) z u hu
    have g1 := g.1
    exact k_X7_isItem_133 ⟨_, rfl, g.2⟩
  · rw [e2]
    have e := itF_k (ρ := ρ) h
    refine k_X7_isItem_134 (sp_isPair (i := 4) hD0 hT0 okt (by omega) x2 (by omega) (by omega) (by omega) (by omega) (by omega)) (fun z u hu => ?_)
    have g := fin (fun c => by rw [e, if_pos c]; rfl) (fun c => by rw [e, if_neg c]) z u hu
    have g1 := g.1
    exact k_X7_isItem_144 ⟨_, rfl, g.2⟩
  · rw [e2]
    have e := itF_d (ρ := ρ) h
    refine k_X7_isItem_145 (sp_isDampItem hD0 ok hT0 okt (by omega) x2) (fun z u hu => ?_)
    have g := fin (fun c => by rw [e, if_pos c]) (fun c => by rw [e, if_neg c]) z u hu
    have g1 := g.1
    exact k_X7_isItem_149 ⟨_, rfl, g.2⟩
  · rw [e2]
    exact k_X7_isItem_150 ⟨_, rfl, f0.t, Or.inr ⟨rfl, itF_n h⟩⟩
theorem m_scan {Ret : Option Value → Wd → Prop} {t : Tx} (okt : okX t) : ∀ (n : Nat) (p : Int) (ρ : Rm) (w : Wd) (o1 : Option Value), t.1 ≤ p + n → (0 ≤ p ∧ p ≤ 215) → okD ρ → TxM w t → DrM w ρ → wI w 63 2 = p →
    (∀ z u, z = (scF t n p ρ).1 → (z = -4 → DrM u (scF t n p ρ).2) → FrT w u → Ret (some (vI z)) u) →
    G Γ m_X7_fault Ret 0 0 59 [some (vR 63), o1] [] w := by
  intro n
  induction n with
  | zero =>
    intro p ρ w o1 hn hp ok hT hD e2 kr
    have ht := okt.1
    have c0 := hD.1.1.1
    have e0 := hT.1
    exact k_X7_fault_59 (fun _ => k_X7_fault_87 (kr (-4) w rfl (fun _ => hD) FrT.rfl)) (fun q => absurd q (by omega))
  | succ n ih =>
    intro p ρ w o1 hn hp ok hT hD e2 kr
    have ht := okt.1
    have c0 := hD.1.1.1
    have e0 := hT.1
    by_cases h1 : t.1 ≤ p
    · have e : scF t (n + 1) p ρ = (-4, ρ) := by
        show (if t.1 ≤ p then _ else _) = _
        rw [if_pos h1]
      rw [e] at kr
      exact k_X7_fault_59 (fun _ => k_X7_fault_87 (kr (-4) w rfl (fun _ => hD) FrT.rfl)) (fun q => absurd q (by omega))
    · have e : scF t (n + 1) p ρ = match itF t ρ p with
          | none => (p, ρ)
          | some q => scF t n q.1 q.2 := by
        show (if t.1 ≤ p then _ else _) = _
        rw [if_neg h1]
        rfl
      rw [e] at kr
      refine k_X7_fault_59 (fun q => absurd q (by omega)) (fun _ => ?_)
      refine k_X7_fault_70 (sp_isItem hD ok hT okt (by omega) e2) (fun z u hu => ?_)
      rw [e2]
      obtain ⟨hF, ⟨rfl, q, e3, h2, h3⟩ | ⟨rfl, e3⟩⟩ := hu
      · rw [e3] at kr
        have iq := it_ok ok e3
        refine k_X7_fault_79 (fun _ => k_X7_fault_84 (ih q.1 q.2 u _ (by omega) (by omega) iq.1 (hT.frT hF) h3 h2 (fun z v e4 h4 hF4 => kr z v e4 h4 (hF.trans hF4)))) (fun g => absurd g (by decide))
      · rw [e3] at kr
        exact k_X7_fault_79 (fun g => absurd rfl g) (fun _ => k_X7_fault_82 (kr p u rfl (fun g => by omega) hF))
theorem sp_mread {t : Tx} (okt : okX t) (hM : ModS w) (hT : TxM w t) : SpI Γ m_X7_fault [vR 63] w (fun z u => z = (txF t).1 ∧ (z = -4 → DrM u (txF t).2) ∧ FrT w u) := by
  obtain ⟨⟨c0, c1, c2, c3, c4, c5, c6, c7, c8, c9, c10, c11, c12, c13, c14⟩, d1, d2, d3, d4, d5, d6, d7, d8, d9, d10, d11, d12, d13, d14⟩ := id hM
  have ht := okt.1
  refine i_X7_fault (k_X7_fault_0 (q1 := 67) (n2 := 6) ?_)
  have hF : FrT w (stI (stI (stI (stI (stI (stI (stI (stI (stI w 63 2 0) 63 4 0) 63 5 0) 67 0 3) 67 1 60) 67 2 2) 67 3 12) 67 4 0) 67 5 3) := ((((((((FrT.st (by decide)).trans (FrT.st (by decide))).trans (FrT.st (by decide))).trans (FrT.sta (by decide))).trans (FrT.sta (by decide))).trans (FrT.sta (by decide))).trans (FrT.sta (by decide))).trans (FrT.sta (by decide))).trans (FrT.sta (by decide))
  refine m_scan okt 201 0 defR _ _ (by omega) (by omega) okD_def (hT.frT hF) ⟨hM.fr hF.1, ?_, ?_, fun i i0 i1 => ?_, fun s s0 s1 => ?_, fun k k0 k1 => ?_⟩ ?_ (fun z v e1 e2 hF2 => ⟨z, rfl, e1, e2, hF.trans hF2⟩)
  · simp only [wI_stI]; rfl
  · simp only [wI_stI]; rfl
  · have hi : i = 0 ∨ i = 1 ∨ i = 2 ∨ i = 3 ∨ i = 4 ∨ i = 5 := by omega
    rcases hi with rfl | rfl | rfl | rfl | rfl | rfl <;>
      simp only [wI_stI] <;> rfl
  · have s1' : s < 0 := s1
    omega
  · have k1' : k < 0 := k1
    omega
  · simp only [wI_stI]; rfl
theorem RM.rd {σ : Sg} {u : Wd} (h : RM w σ) (g : FrT w u) : RM u σ := by
  obtain ⟨h0, h1, h2, h3, h4, h5⟩ := h
  exact ⟨h0.fr g.1 ⟨g.2 9 (by decide), g.2 10 (by decide)⟩ (by decide), h1.frT g, h2.fr g.1 (by decide), h3.fr g.1 (g.2 17 (by decide)) (by decide), h4.fr g.1 (g.2 19 (by decide)) (by decide), h5.fr g.1 (g.2 20 (by decide)) (by decide)⟩
theorem m_fault {σ : Sg} (h : RM w σ) (ok : okS σ) : SpI Γ m_X7_fault [vR 63] w (MR w (fFault σ, σ)) :=
  Sp_mono (sp_mread ok.x h.1.1 h.2.1) (fun v u hu => by
    obtain ⟨z, rfl, a, b, c⟩ := hu
    exact ⟨z, rfl, a, h.rd c, c.1.mono (fun a ha => by omega)⟩)
theorem zero_loop {Ret : Option Value → Wd → Prop} (hM : ModS w) (kr : ∀ u, Fr (fun a => a = 71) w u → (∀ j : Int, 0 ≤ j → j < 32 → wI u 71 j = 0) → G Γ m_X7_lay Ret 0 0 101 [some (vR 63), some (vI 32)] [] u) : ∀ (n : Nat) (k : Int) (u : Wd), 0 ≤ k → k + n = 32 → Fr (fun a => a = 71) w u → (∀ j : Int, 0 ≤ j → j < k → wI u 71 j = 0) → G Γ m_X7_lay Ret 0 0 82 [some (vR 63), some (vI k)] [] u := by
  intro n
  induction n with
  | zero =>
    intro k u k0 hk hF hz
    have e : k = 32 := by omega
    subst e
    exact k_X7_lay_82 (fun _ => kr u hF hz) (fun q => absurd q (by omega))
  | succ n ih =>
    intro k u k0 hk hF hz
    obtain ⟨⟨c0, c1, c2, c3, c4, c5, c6, c7, c8, c9, c10, c11, c12, c13, c14⟩, d1, d2, d3, d4, d5, d6, d7, d8, d9, d10, d11, d12, d13, d14⟩ := id (hM.fr hF)
    refine k_X7_lay_82 (fun q => absurd q (by omega)) (fun _ => k_X7_lay_88 (q1 := 71) (n2 := 32) (ih (k + 1) _ (by omega) (by omega) (hF.trans (Fr.st rfl)) (fun j j0 j1 => ?_)))
    by_cases e : j = k
    · rw [e, wI_hit]
    · rw [wI_skip e]; exact hz j j0 (by omega)
theorem m_lay {σ : Sg} (h : RM w σ) (ok : okS σ) : SpI Γ m_X7_lay [vR 63] w (MR w (fLay σ)) := by
  have c0 := h.1.1.1.1
  have hx := tx_r ok
  refine i_X7_lay (k_X7_lay_0 (sp_mread ok.x h.1.1 h.2.1) (fun z u hu => ?_))
  obtain ⟨rfl, hD, hF⟩ := hu
  have hU := h.rd hF
  have hFm : Fr (fun a => 63 ≤ a) w u := hF.1.mono (fun a ha => by omega)
  have cu0 := hU.1.1.1.1
  refine k_X7_lay_4 (fun q => k_X7_lay_16 ⟨_, rfl, ?_⟩) (fun q => ?_)
  · have e : fLay σ = (-2, σ) := if_neg (fun y => q y.1)
    rw [e]
    exact ⟨rfl, hU, hFm⟩
  have hD := hD q
  have okD' : okD (txF σ.1).2 := sc_ok 201 0 defR okD_def
  have o0 := okD'.1
  have e4 := hD.2.1
  have e5 := hD.2.2.1
  refine k_X7_lay_9 (fun q2 => ?_) (fun q2 => k_X7_lay_16 ⟨_, rfl, ?_⟩)
  rotate_left
  · have e : fLay σ = (-2, σ) := if_neg (fun y => y.2 (by omega))
    rw [e]
    exact ⟨rfl, hU, hFm⟩
  have eL : fLay σ = (rS (txF σ.1).2 0, newS σ (txF σ.1).2) := if_pos ⟨q, by omega⟩
  rw [eL]
  generalize (txF σ.1).2 = ρ at *
  have f0 : Fr (fun a => a = 63) u (stI (stI u 63 9 (wI u 63 4)) 63 10 (wI u 63 5)) := (Fr.st (P := fun a => a = 63) rfl).trans (Fr.st (P := fun a => a = 63) rfl)
  have g9 : wI (stI (stI u 63 9 (wI u 63 4)) 63 10 (wI u 63 5)) 63 9 = rS ρ 0 := by rw [wI_skip (by decide), wI_hit]; exact e4
  have g10 : wI (stI (stI u 63 9 (wI u 63 4)) 63 10 (wI u 63 5)) 63 10 = rS ρ 1 := by rw [wI_hit]; exact e5
  have g0 : wI (stI (stI u 63 9 (wI u 63 4)) 63 10 (wI u 63 5)) 63 0 = wI u 63 0 := by rw [wI_skip (by decide), wI_skip (by decide)]
  obtain ⟨⟨u0, u1, u2, u3, u4, u5, u6, u7, u8, u9, u10, u11, u12, u13, u14⟩, t1, t2, t3, t4, t5, t6, t7, t8, t9, t10, t11, t12, t13, t14⟩ := id hU.1.1
  have hM0 := hU.1.1.fr f0
  have l65 : ∀ k, wI (stI (stI u 63 9 (wI u 63 4)) 63 10 (wI u 63 5)) 65 k = wI u 65 k := fun k => f0.2.1 65 (by decide) k
  have l66 : ∀ k, wI (stI (stI u 63 9 (wI u 63 4)) 63 10 (wI u 63 5)) 66 k = wI u 66 k := fun k => f0.2.1 66 (by decide) k
  have l67 : ∀ k, wI (stI (stI u 63 9 (wI u 63 4)) 63 10 (wI u 63 5)) 67 k = wI u 67 k := fun k => f0.2.1 67 (by decide) k
  refine k_X7_lay_19 (q1 := 65) (q2 := 68) (Q := fun v => Fr (fun q => q = 68) (stI (stI u 63 9 (wI u 63 4)) 63 10 (wI u 63 5)) v ∧ ∀ k, wI v 68 k = if 0 ≤ k ∧ k < 0 + 36 then wI (stI (stI u 63 9 (wI u 63 4)) 63 10 (wI u 63 5)) 65 (0 + (k - 0)) else wI (stI (stI u 63 9 (wI u 63 4)) 63 10 (wI u 63 5)) 68 k) (sp_bring (na := 36) (nb := 36) hM0.1.2.2.1 hM0.1.2.2.2.2.2.1 (by omega) (by omega) (by omega) (by omega) (by omega) (by omega)) (fun v1 hv1 => ?_)
  obtain ⟨f1, b1⟩ := hv1
  generalize stI (stI u 63 9 (wI u 63 4)) 63 10 (wI u 63 5) = y at *
  have hM1 := hM0.fr f1
  obtain ⟨⟨v0, v1', v2, v3, v4, v5, v6, v7, v8, v9, v10, v11, v12, v13, v14⟩, w1, w2, w3, w4, w5, w6, w7, w8, w9, w10, w11, w12, w13, w14⟩ := id hM1
  refine k_X7_lay_50 (q1 := 66) (q2 := 69) (sp_bring (na := 12) (nb := 12) v3 v6 (by omega) (by omega) (by omega) (by omega) (by omega) (by omega)) (fun v2' hv2 => ?_)
  obtain ⟨f2, b2⟩ := hv2
  have hM2 := hM1.fr f2
  obtain ⟨⟨v0, v1', v2, v3, v4, v5, v6, v7, v8, v9, v10, v11, v12, v13, v14⟩, w1, w2, w3, w4, w5, w6, w7, w8, w9, w10, w11, w12, w13, w14⟩ := id hM2
  refine k_X7_lay_65 (q1 := 67) (q2 := 70) (sp_bring (na := 6) (nb := 6) v4 v7 (by omega) (by omega) (by omega) (by omega) (by omega) (by omega)) (fun v3' hv3 => ?_)
  obtain ⟨f3, b3⟩ := hv3
  have hM3 := hM2.fr f3
  refine k_X7_lay_80 (zero_loop hM3 (fun v4' f4 z4 => ?_) 32 0 v3' (by omega) (by omega) Fr.rfl (fun j a b => by omega))
  have hM4 := hM3.fr f4
  have x0 := hM4.1.1
  have f14 : Fr (fun a => 68 ≤ a ∧ a ≤ 71) y v4' := (((f1.mono (fun a ha => by omega)).trans (f2.mono (fun a ha => by omega))).trans (f3.mono (fun a ha => by omega))).trans (f4.mono (fun a ha => by omega))
  have q9 : wI v4' 63 9 = rS ρ 0 := by rw [f14.2.1 63 (by decide)]; exact g9
  have q10 : wI v4' 63 10 = rS ρ 1 := by rw [f14.2.1 63 (by decide)]; exact g10
  have q0 : wI v4' 63 0 = wI u 63 0 := by rw [f14.2.1 63 (by decide)]; exact g0
  have q68 : ∀ k : Int, 0 ≤ k → k < 36 → wI v4' 68 k = wI u 65 k := fun k k0 k1 => by
    rw [f4.2.1 68 (by decide), f3.2.1 68 (by decide), f2.2.1 68 (by decide), b1, if_pos (by omega), l65, show (0 + (k - 0) : Int) = k by omega]
  have q69 : ∀ k : Int, 0 ≤ k → k < 12 → wI v4' 69 k = wI u 66 k := fun k k0 k1 => by
    rw [f4.2.1 69 (by decide), f3.2.1 69 (by decide), b2, if_pos (by omega), f1.2.1 66 (by decide), l66, show (0 + (k - 0) : Int) = k by omega]
  have q70 : ∀ k : Int, 0 ≤ k → k < 6 → wI v4' 70 k = wI u 67 k := fun k k0 k1 => by
    rw [f4.2.1 70 (by decide), b3, if_pos (by omega), f2.2.1 67 (by decide), f1.2.1 67 (by decide), l67, show (0 + (k - 0) : Int) = k by omega]
  have f5 : Fr (fun a => a = 63) v4' (stI (stI (stI v4' 63 20 0) 63 17 0) 63 19 0) := ((Fr.st (P := fun a => a = 63) rfl).trans (Fr.st (P := fun a => a = 63) rfl)).trans (Fr.st (P := fun a => a = 63) rfl)
  have hs : ∀ k, k ≠ 20 → k ≠ 17 → k ≠ 19 → wI (stI (stI (stI v4' 63 20 0) 63 17 0) 63 19 0) 63 k = wI v4' 63 k := fun k h1 h2 h3 => by rw [wI_skip h3, wI_skip h2, wI_skip h1]
  have fall : Fr (fun a => a = 63 ∨ (68 ≤ a ∧ a ≤ 71)) u (stI (stI (stI v4' 63 20 0) 63 17 0) 63 19 0) := ((f0.mono (fun a ha => Or.inl ha)).trans (f14.mono (fun a ha => Or.inr ha))).trans (f5.mono (fun a ha => Or.inl ha))
  obtain ⟨⟨-, c1, -⟩, -⟩ := id (hM4.fr f5)
  have hMf := hM4.fr f5
  have o1 := okD'.2.1
  refine k_X7_lay_101 ⟨_, rfl, q9, ⟨⟨hMf, ?_, ?_, fun i i0 i1 => ?_, fun s s0 s1 => ?_, fun k k0 k1 => ?_⟩, hU.2.1.fr fall (by rw [hs 0 (by decide) (by decide) (by decide)]; exact q0) (by omega), ⟨hMf.1.2.2.2.2.2.2.2.2.1, ?_, fun k k0 k1 => ?_, fun i i0 i1 => ?_, ?_, ?_, ?_⟩, ⟨?_, fun j j0 j1 => ?_⟩, ⟨?_, fun j j0 j1 => ?_⟩, ⟨?_, fun j j0 j1 => ?_⟩⟩, hFm.trans (fall.mono (fun a ha => by omega))⟩
  · rw [hs 9 (by decide) (by decide) (by decide)]; exact q9
  · rw [hs 10 (by decide) (by decide) (by decide)]; exact q10
  · rw [f5.2.1 70 (by decide), q70 i i0 i1]; exact hD.2.2.2.1 i i0 i1
  · have hh := hD.2.2.2.2.1 s s0 s1
    have s1' : s < rS ρ 0 := s1
    rw [f5.2.1 68 (by decide), f5.2.1 68 (by decide), f5.2.1 68 (by decide), q68 _ (by omega) (by omega), q68 _ (by omega) (by omega), q68 _ (by omega) (by omega)]
    exact hh
  · have k1' : k < rS ρ 1 := k1
    rw [f5.2.1 69 (by decide), q69 _ k0 (by omega)]
    exact hD.2.2.2.2.2 k k0 k1
  · rw [f5.2.1 71 (by decide)]; exact z4 0 (by decide) (by decide)
  · have k1' : k < 0 := k1
    omega
  · rw [f5.2.1 71 (by decide)]; exact z4 _ (by omega) (by omega)
  · rw [f5.2.1 71 (by decide)]; exact z4 29 (by decide) (by decide)
  · rw [f5.2.1 71 (by decide)]; exact z4 30 (by decide) (by decide)
  · rw [f5.2.1 71 (by decide)]; exact z4 31 (by decide) (by decide)
  · rw [wI_skip (by decide), wI_hit]; rfl
  · have j1' : j < 0 := j1
    omega
  · rw [wI_hit]; rfl
  · have j1' : j < 0 := j1
    omega
  · rw [wI_skip (by decide), wI_skip (by decide), wI_hit]; rfl
  · have j1' : j < 0 := j1
    omega
end
