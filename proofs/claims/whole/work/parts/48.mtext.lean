section
variable {Γ : Gm} {w : Wd}
/-- the model's draft -/
def DrM (w : Wd) (ρ : Rm) : Prop := ModS w ∧ wI w 63 4 = rS ρ 0 ∧ wI w 63 5 = rS ρ 1 ∧ (∀ i : Int, 0 ≤ i → i < 6 → wI w 67 i = rS ρ (i + 2)) ∧ (∀ s : Int, 0 ≤ s → s < rS ρ 0 → wI w 65 (3 * s) = rL ρ s ∧ wI w 65 (3 * s + 1) = rG ρ s ∧ wI w 65 (3 * s + 2) = rT ρ s) ∧ ∀ k : Int, 0 ≤ k → k < rS ρ 1 → wI w 66 k = rD ρ k
/-- what the reading may change -/
def FrT (w u : Wd) : Prop := Fr (fun a => a = 63 ∨ (65 ≤ a ∧ a ≤ 67)) w u ∧ ∀ k : Int, ¬ (2 ≤ k ∧ k ≤ 5) → wI u 63 k = wI w 63 k
theorem FrT.rfl {w : Wd} : FrT w w := ⟨Fr.rfl, fun _ _ => Eq.refl _⟩
theorem FrT.trans {w u v : Wd} (h : FrT w u) (g : FrT u v) : FrT w v := ⟨h.1.trans g.1, fun k hk => (g.2 k hk).trans (h.2 k hk)⟩
theorem FrT.st {w : Wd} {k v : Int} (h : 2 ≤ k ∧ k ≤ 5) : FrT w (stI w 63 k v) := ⟨Fr.st (Or.inl (Eq.refl _)), fun i hi => wI_skip (fun q => hi (q ▸ h))⟩
theorem FrT.sta {w : Wd} {a : Nat} {k v : Int} (h : 65 ≤ a ∧ a ≤ 67) : FrT w (stI w a k v) := ⟨Fr.st (Or.inr h), fun i hi => wI_st_ne (by omega)⟩
/-- .. and a number's reading -/
def FrN (w u : Wd) : Prop := Fr (fun a => a = 63) w u ∧ ∀ k : Int, ¬ (k = 2 ∨ k = 3) → wI u 63 k = wI w 63 k
theorem FrN.rfl {w : Wd} : FrN w w := ⟨Fr.rfl, fun _ _ => Eq.refl _⟩
theorem FrN.trans {w u v : Wd} (h : FrN w u) (g : FrN u v) : FrN w v := ⟨h.1.trans g.1, fun k hk => (g.2 k hk).trans (h.2 k hk)⟩
theorem FrN.st {w : Wd} {k v : Int} (h : k = 2 ∨ k = 3) : FrN w (stI w 63 k v) := ⟨Fr.st (Eq.refl _), fun i hi => wI_skip (fun q => hi (q ▸ h))⟩
theorem FrN.t {w u : Wd} (h : FrN w u) : FrT w u := ⟨h.1.mono (fun a ha => Or.inl ha), fun k hk => h.2 k (fun q => by omega)⟩
theorem DrM.fr {w u : Wd} {ρ : Rm} (h : DrM w ρ) (g : FrN w u) : DrM u ρ := by
  obtain ⟨h0, h1, h2, h3, h4, h5⟩ := h
  have q65 := g.1.2.1 65 (by decide)
  have q66 := g.1.2.1 66 (by decide)
  have q67 := g.1.2.1 67 (by decide)
  refine ⟨h0.fr g.1, by rw [g.2 4 (by decide)]; exact h1, by rw [g.2 5 (by decide)]; exact h2, fun i a b => by rw [q67]; exact h3 i a b, fun s a b => by rw [q65, q65, q65]; exact h4 s a b, fun k a b => by rw [q66]; exact h5 k a b⟩
theorem TxM.frT {w u : Wd} {t : Tx} (h : TxM w t) (g : FrT w u) : TxM u t := h.fr g.1 (g.2 0 (by decide)) (by decide)
theorem DrM.set1 {ρ : Rm} {i a : Int} (h : DrM w ρ) (hi : 0 ≤ i ∧ i < 6) : DrM (stI w 67 i a) (set1 ρ (i + 2) a) := by
  obtain ⟨h0, h1, h2, h3, h4, h5⟩ := h
  have hF : Fr (fun a => a = 67) w (stI w 67 i a) := Fr.st rfl
  refine ⟨h0.fr hF, ?_, ?_, fun j j0 j1 => ?_, fun s s0 s1 => ?_, fun k k0 k1 => ?_⟩
  · rw [wI_st_ne (by decide), set1_ne (by omega)]; exact h1
  · rw [wI_st_ne (by decide), set1_ne (by omega)]; exact h2
  · by_cases e : j = i
    · rw [e, wI_hit, set1_hit]
    · rw [wI_skip e, set1_ne (by omega)]; exact h3 j j0 j1
  · rw [set1_ne (by omega)] at s1
    rw [wI_st_ne (by decide), wI_st_ne (by decide), wI_st_ne (by decide)]
    exact h4 s s0 s1
  · rw [set1_ne (by omega)] at k1
    rw [wI_st_ne (by decide)]
    exact h5 k k0 k1
theorem DrM.st65 {ρ : Rm} {k a : Int} (h : DrM w ρ) (hk : 3 * rS ρ 0 ≤ k) : DrM (stI w 65 k a) ρ := by
  obtain ⟨h0, h1, h2, h3, h4, h5⟩ := h
  have hF : Fr (fun a => a = 65) w (stI w 65 k a) := Fr.st rfl
  refine ⟨h0.fr hF, ?_, ?_, fun j j0 j1 => ?_, fun s s0 s1 => ?_, fun j k0 k1 => ?_⟩
  · rw [wI_st_ne (by decide)]; exact h1
  · rw [wI_st_ne (by decide)]; exact h2
  · rw [wI_st_ne (by decide)]; exact h3 j j0 j1
  · rw [wI_skip (by omega), wI_skip (by omega), wI_skip (by omega)]; exact h4 s s0 s1
  · rw [wI_st_ne (by decide)]; exact h5 j k0 k1
theorem DrM.stS {ρ : Rm} {a b c : Int} (h : DrM w ρ) (ea : wI w 65 (3 * rS ρ 0) = a) (eb : wI w 65 (3 * rS ρ 0 + 1) = b) (ec : wI w 65 (3 * rS ρ 0 + 2) = c) : DrM (stI w 63 4 (rS ρ 0 + 1)) (addS ρ a b c) := by
  obtain ⟨h0, h1, h2, h3, h4, h5⟩ := h
  have hF : Fr (fun a => a = 63) w (stI w 63 4 (rS ρ 0 + 1)) := Fr.st rfl
  have e0 : rS (addS ρ a b c) 0 = rS ρ 0 + 1 := by show upI ρ.1 0 (rS ρ 0 + 1) 0 = _; exact upI_hit
  have en : ∀ i, i ≠ 0 → rS (addS ρ a b c) i = rS ρ i := fun i hi => upI_ne hi
  refine ⟨h0.fr hF, ?_, ?_, fun j j0 j1 => ?_, fun s s0 s1 => ?_, fun j k0 k1 => ?_⟩
  · rw [wI_hit, e0]
  · rw [wI_skip (by decide), en 1 (by decide)]; exact h2
  · rw [wI_st_ne (by decide), en _ (by omega)]; exact h3 j j0 j1
  · rw [e0] at s1
    rw [wI_st_ne (by decide), wI_st_ne (by decide), wI_st_ne (by decide)]
    have a1 : rL (addS ρ a b c) s = if s = rS ρ 0 then a else rL ρ s := rfl
    have a2 : rG (addS ρ a b c) s = if s = rS ρ 0 then b else rG ρ s := rfl
    have a3 : rT (addS ρ a b c) s = if s = rS ρ 0 then c else rT ρ s := rfl
    rw [a1, a2, a3]
    by_cases e : s = rS ρ 0
    · rw [if_pos e, if_pos e, if_pos e, e]; exact ⟨ea, eb, ec⟩
    · rw [if_neg e, if_neg e, if_neg e]; exact h4 s s0 (by omega)
  · rw [en 1 (by decide)] at k1
    rw [wI_st_ne (by decide)]; exact h5 j k0 k1
theorem DrM.stD {ρ : Rm} {a : Int} (h : DrM w ρ) : DrM (stI (stI w 66 (rS ρ 1) a) 63 5 (rS ρ 1 + 1)) (addD ρ a) := by
  obtain ⟨h0, h1, h2, h3, h4, h5⟩ := h
  have hF : Fr (fun a => a = 63 ∨ a = 66) w (stI (stI w 66 (rS ρ 1) a) 63 5 (rS ρ 1 + 1)) := (Fr.st (Or.inr rfl)).trans (Fr.st (Or.inl rfl))
  have e0 : rS (addD ρ a) 1 = rS ρ 1 + 1 := by show upI ρ.1 1 (rS ρ 1 + 1) 1 = _; exact upI_hit
  have en : ∀ i, i ≠ 1 → rS (addD ρ a) i = rS ρ i := fun i hi => upI_ne hi
  refine ⟨h0.fr hF, ?_, ?_, fun j j0 j1 => ?_, fun s s0 s1 => ?_, fun j k0 k1 => ?_⟩
  · rw [wI_skip (by decide), wI_st_ne (by decide), en 0 (by decide)]; exact h1
  · rw [wI_hit, e0]
  · rw [wI_st_ne (by decide), wI_st_ne (by decide), en _ (by omega)]; exact h3 j j0 j1
  · rw [en 0 (by decide)] at s1
    rw [wI_st_ne (by decide), wI_st_ne (by decide), wI_st_ne (by decide), wI_st_ne (by decide), wI_st_ne (by decide), wI_st_ne (by decide)]
    exact h4 s s0 s1
  · rw [e0] at k1
    have a1 : rD (addD ρ a) j = if j = rS ρ 1 then a else rD ρ j := rfl
    rw [a1, wI_st_ne (by decide)]
    by_cases e : j = rS ρ 1
    · rw [if_pos e, e, wI_hit]
    · rw [if_neg e, wI_skip e]; exact h5 j k0 (by omega)
theorem sp_mlet {t : Tx} {p : Int} (hM : ModS w) (hT : TxM w t) (ok : okX t) (hp : 0 ≤ p ∧ p < 1000) : SpP Γ m_X7_letterAt [vR 63, vI p] w (ltF t p) := by
  have c0 := hM.1.1
  have c1 := hM.1.2.1
  have d1 := hM.2.1
  have h0 := ok.1
  have e0 := hT.1
  refine i_X7_letterAt (k_X7_letterAt_0 (fun q => k_X7_letterAt_17 (rp ?_)) (fun q => k_X7_letterAt_8 (q1 := 64) (n2 := 200) ⟨_, rfl, ?_, rfl⟩))
  · unfold ltF; rw [if_pos (by omega)]
  · rw [hT.2 p hp.1 (by omega)]; unfold ltF; rw [if_neg (by omega)]
theorem in_fin {Ret : Option Value → Wd → Prop} {t : Tx} {p' v a b e a4 : Int} {u : Wd} (hM : ModS u) (hT : TxM u t) (okt : okX t) (hp : 0 ≤ p' ∧ p' < 1000) (e2 : wI u 63 2 = p') (e3 : wI u 63 3 = v) (hv : 0 ≤ v ∧ v ≤ 99) (ha : 0 ≤ a ∧ a ≤ 99) (hb : 0 ≤ b ∧ b ≤ 99) (he : 0 ≤ e ∧ e ≤ 126) (h4 : 1 ≤ a4 ∧ a4 ≤ 2)
    (k1 : (a ≤ v ∧ v ≤ b) ∧ ltF t p' = e → Ret (some (vI 1)) (stI u 63 2 (p' + 1)))
    (k0 : ¬ ((a ≤ v ∧ v ≤ b) ∧ ltF t p' = e) → Ret (some (vI 0)) u) : G Γ m_X7_isNumber Ret 0 0 71 [some (vR 63), some (vI a), some (vI b), some (vI e), some (vI a4)] [] u := by
  have c0 := hM.1.1
  have hl := lt_r okt (p := p') (by omega)
  refine k_X7_isNumber_71 (fun q => absurd q (by omega)) (fun _ => ?_)
  by_cases q : a ≤ v ∧ v ≤ b
  · refine k_X7_isNumber_76 (z1 := 1) (by rw [e3]; exact sp_in1 q (by omega) (by omega) (by omega)) (fun g => absurd g (by decide)) (fun _ => ?_)
    refine k_X7_isNumber_88 (by rw [e2]; exact sp_mlet hM hT okt hp) (fun g => k_X7_isNumber_102 ?_) (fun g => k_X7_isNumber_100 (k0 (fun y => g y.2)))
    rw [e2]; exact k1 ⟨q, g⟩
  · exact k_X7_isNumber_76 (z1 := 0) (by rw [e3]; exact sp_in0 q (by omega) (by omega) (by omega)) (fun _ => k_X7_isNumber_100 (k0 (fun y => q y.1))) (fun g => absurd rfl g)
theorem fg_0 {t : Tx} {p : Int} (h : ¬ (48 ≤ ltF t p ∧ ltF t p ≤ 57)) : fgF t p = 0 := if_neg h
theorem fg_1 {t : Tx} {p : Int} (h : 48 ≤ ltF t p ∧ ltF t p ≤ 57) (h2 : ¬ (48 ≤ ltF t (p + 1) ∧ ltF t (p + 1) ≤ 57)) : fgF t p = 1 := by unfold fgF; rw [if_pos h, if_neg h2]
theorem fg_2 {t : Tx} {p : Int} (h : 48 ≤ ltF t p ∧ ltF t p ≤ 57) (h2 : 48 ≤ ltF t (p + 1) ∧ ltF t (p + 1) ≤ 57) : fgF t p = 2 := by unfold fgF; rw [if_pos h, if_pos h2]
theorem sp_isNumber {t : Tx} {p a b e : Int} (hM : ModS w) (hT : TxM w t) (okt : okX t) (hp : 0 ≤ p ∧ p < 900) (e2 : wI w 63 2 = p) (ha : 0 ≤ a ∧ a ≤ 99) (hb : 0 ≤ b ∧ b ≤ 99) (he : 0 ≤ e ∧ e ≤ 126) : SpI Γ m_X7_isNumber [vR 63, vI a, vI b, vI e] w (fun z u => FrN w u ∧ ((z = 1 ∧ nuR t p e a b ∧ wI u 63 2 = nxF t p ∧ wI u 63 3 = nmF t p) ∨ (z = 0 ∧ ¬ nuR t p e a b))) := by
  have c0 := hM.1.1
  have l1 := lt_r okt (p := p) (by omega)
  have l2 := lt_r okt (p := p + 1) (by omega)
  have f0 : FrN w (stI w 63 3 0) := FrN.st (Or.inr rfl)
  refine i_X7_isNumber (k_X7_isNumber_0 ?_)
  have hM0 := hM.fr f0.1
  have hT0 := hT.frT f0.t
  have x2 : wI (stI w 63 3 0) 63 2 = p := by rw [wI_skip (by decide)]; exact e2
  have x3 : wI (stI w 63 3 0) 63 3 = 0 := wI_hit
  generalize stI w 63 3 0 = u at *
  have c0u := hM0.1.1
  have s1 := sp_mlet (Γ := Γ) hM0 hT0 okt (p := p) (by omega)
  refine k_X7_isNumber_8 (fun q => absurd q (by omega)) (fun _ => ?_)
  by_cases h1 : 48 ≤ ltF t p ∧ ltF t p ≤ 57
  rotate_left
  · exact k_X7_isNumber_14 (z2 := 0) (by rw [x2]; exact s1) (sp_in0 h1 (by omega) (by omega) (by omega)) (fun _ => k_X7_isNumber_71 (fun _ => k_X7_isNumber_100 ⟨_, rfl, f0, Or.inr ⟨rfl, fun y => y.1.1 (fg_0 h1)⟩⟩) (fun q => absurd rfl q)) (fun q => absurd rfl q)
  refine k_X7_isNumber_14 (z2 := 1) (by rw [x2]; exact s1) (sp_in1 h1 (by omega) (by omega) (by omega)) (fun q => absurd q (by decide)) (fun _ => ?_)
  refine k_X7_isNumber_32 (z1 := ltF t p) (by rw [x2]; exact s1) ?_
  rw [x2, x3]
  have f1 : FrN u (stI (stI u 63 3 (10 * 0 + ltF t p - 48)) 63 2 (p + 1)) := (FrN.st (Or.inr rfl)).trans (FrN.st (Or.inl rfl))
  have hM1 := hM0.fr f1.1
  have hT1 := hT0.frT f1.t
  have y2 : wI (stI (stI u 63 3 (10 * 0 + ltF t p - 48)) 63 2 (p + 1)) 63 2 = p + 1 := wI_hit
  have y3 : wI (stI (stI u 63 3 (10 * 0 + ltF t p - 48)) 63 2 (p + 1)) 63 3 = ltF t p - 48 := by rw [wI_skip (by decide), wI_hit]; omega
  generalize stI (stI u 63 3 (10 * 0 + ltF t p - 48)) 63 2 (p + 1) = v at *
  have f01 := f0.trans f1
  have c0v := hM1.1.1
  have s2 := sp_mlet (Γ := Γ) hM1 hT1 okt (p := p + 1) (by omega)
  refine k_X7_isNumber_8 (fun q => absurd q (by omega)) (fun _ => ?_)
  by_cases h2 : 48 ≤ ltF t (p + 1) ∧ ltF t (p + 1) ≤ 57
  rotate_left
  · have eg := fg_1 h1 h2
    have en : nmF t p = ltF t p - 48 := by unfold nmF; rw [if_neg (by rw [eg]; decide)]
    have ex : nxF t p = p + 1 + 1 := by unfold nxF; rw [eg]
    refine k_X7_isNumber_14 (z2 := 0) (by rw [y2]; exact s2) (sp_in0 h2 (by omega) (by omega) (by omega)) (fun _ => ?_) (fun q => absurd rfl q)
    refine in_fin (p' := p + 1) (v := ltF t p - 48) hM1 hT1 okt (by omega) y2 y3 (by omega) ha hb he (by omega) (fun g => ⟨_, rfl, f01.trans (FrN.st (Or.inl rfl)), Or.inl ⟨rfl, ⟨⟨by omega, by rw [eg]; exact g.2⟩, by omega⟩, by rw [wI_hit, ex], by rw [wI_skip (by decide), y3, en]⟩⟩) (fun g => ⟨_, rfl, f01, Or.inr ⟨rfl, fun y => g ⟨by omega, ?_⟩⟩⟩)
    have := y.1.2
    rw [eg] at this
    exact this
  have eg := fg_2 h1 h2
  have en : nmF t p = (ltF t p - 48) * 10 + ltF t (p + 1) - 48 := by unfold nmF; rw [if_pos eg]
  have ex : nxF t p = p + 2 + 1 := by unfold nxF; rw [eg]
  refine k_X7_isNumber_14 (z2 := 1) (by rw [y2]; exact s2) (sp_in1 h2 (by omega) (by omega) (by omega)) (fun q => absurd q (by decide)) (fun _ => ?_)
  refine k_X7_isNumber_32 (z1 := ltF t (p + 1)) (by rw [y2]; exact s2) ?_
  rw [y2, y3]
  have f2 : FrN v (stI (stI v 63 3 (10 * (ltF t p - 48) + ltF t (p + 1) - 48)) 63 2 (p + 1 + 1)) := (FrN.st (Or.inr rfl)).trans (FrN.st (Or.inl rfl))
  have hM2 := hM1.fr f2.1
  have hT2 := hT1.frT f2.t
  have z2 : wI (stI (stI v 63 3 (10 * (ltF t p - 48) + ltF t (p + 1) - 48)) 63 2 (p + 1 + 1)) 63 2 = p + 2 := by rw [wI_hit]; omega
  have z3 : wI (stI (stI v 63 3 (10 * (ltF t p - 48) + ltF t (p + 1) - 48)) 63 2 (p + 1 + 1)) 63 3 = (ltF t p - 48) * 10 + ltF t (p + 1) - 48 := by rw [wI_skip (by decide), wI_hit]; omega
  generalize stI (stI v 63 3 (10 * (ltF t p - 48) + ltF t (p + 1) - 48)) 63 2 (p + 1 + 1) = x at *
  have f012 := f01.trans f2
  refine k_X7_isNumber_8 (fun _ => ?_) (fun q => absurd q (by omega))
  refine in_fin (p' := p + 2) (v := (ltF t p - 48) * 10 + ltF t (p + 1) - 48) hM2 hT2 okt (by omega) z2 z3 (by omega) ha hb he (by omega) (fun g => ⟨_, rfl, f012.trans (FrN.st (Or.inl rfl)), Or.inl ⟨rfl, ⟨⟨by omega, by rw [eg]; exact g.2⟩, by omega⟩, by rw [wI_hit, ex], by rw [wI_skip (by decide), z3, en]⟩⟩) (fun g => ⟨_, rfl, f012, Or.inr ⟨rfl, fun y => g ⟨by omega, ?_⟩⟩⟩)
  have := y.1.2
  rw [eg] at this
  exact this
end
