section
variable {Γ : Gm} {w : Wd}
theorem sc_r {t : Tx} : ∀ (n : Nat) (p : Int) (ρ : Rm), okD ρ → 0 ≤ p → (scF t n p ρ).1 = -4 ∨ (0 ≤ (scF t n p ρ).1 ∧ (scF t n p ρ).1 < t.1)
  | 0, _, _, _, _ => Or.inl rfl
  | n + 1, p, ρ, h, hp => by
    unfold scF
    split
    · exact Or.inl rfl
    · rename_i hq
      split
      · exact Or.inr ⟨hp, by show p < t.1; omega⟩
      · rename_i q e
        have iq := it_ok h e
        exact sc_r n q.1 q.2 iq.1 (by omega)
theorem tx_r {σ : Sg} (ok : okS σ) : -4 ≤ (txF σ.1).1 ∧ (txF σ.1).1 ≤ 200 := by
  have h0 := ok.1
  have h1 : 0 ≤ σ.1.1 ∧ σ.1.1 ≤ 200 := h0
  have h : (txF σ.1).1 = -4 ∨ (0 ≤ (txF σ.1).1 ∧ (txF σ.1).1 < σ.1.1) := sc_r 201 0 defR okD_def (by decide)
  omega
/-- the class's half when the draft alone has changed -/
theorem RC.dft {σ : Sg} {rp dp : Nat} {u : Wd} (h : RC w σ) (hrp : (rp = 2 ∧ dp = 8) ∨ (rp = 8 ∧ dp = 2)) (r2 : wR w 0 2 = vR rp) (r3 : wR w 0 3 = vR dp) (hR : RoomC w rp (gR σ)) (hD : RoomS w dp) (g : Fr (PcR dp) w u) : RC u σ := by
  obtain ⟨h0, h1, h2, h3, h4, h5, h6⟩ := h
  have hn : ∀ a, (a < 2 ∨ 14 ≤ a) → ¬ PcR dp a := fun a q r => by unfold PcR at r; omega
  exact ⟨h0.fr g, ⟨rp, dp, hrp, by rw [g.2.2]; exact r2, by rw [g.2.2]; exact r3, hR.fr g (fun a a1 a2 a3 => by unfold PcR at a3; omega), hD.fr g⟩, h2.fr g ⟨hn 0 (by omega), hn 1 (by omega)⟩, h3.fr g (fun a a1 a2 => hn a (by omega)), h4.fr g (fun a a1 a2 => hn a (by omega)) (by omega), h5.fr g (fun a a1 a2 => hn a (by omega)) (by omega), h6.fr g ⟨hn 54 (by omega), hn 55 (by omega), hn 56 (by omega)⟩⟩
theorem c_read {σ : Sg} {rp dp : Nat} (h : RC w σ) (ok : okS σ) (hrp : (rp = 2 ∧ dp = 8) ∨ (rp = 8 ∧ dp = 2)) (r2 : wR w 0 2 = vR rp) (r3 : wR w 0 3 = vR dp) (hR : RoomC w rp (gR σ)) (hD : RoomS w dp) : SpI Γ m_X3_readText [vR dp, vR 1, vI (wI w 0 1)] w (fun z u => z = fFault σ ∧ (z = -4 → RoomC u dp (txF σ.1).2) ∧ Fr (PcR dp) w u) := by
  obtain ⟨⟨⟨s0, s1, -⟩, -⟩, -, hT, -⟩ := id h
  have h0 := ok.1
  rw [hT.1]
  exact sp_readText (m := 200) ok.x (fun q => by unfold PcR at q; omega) ⟨s1, ⟨h0.2, by omega⟩, hT.2⟩ hD
theorem c_fault {σ : Sg} (h : RC w σ) (ok : okS σ) : SpI Γ m_X6_fault [vR 0] w (CQ w (fFault σ, σ)) := by
  obtain ⟨⟨⟨s0, -⟩, ⟨r0, -⟩, -⟩, ⟨rp, dp, hrp, r2, r3, hR, hD⟩, -⟩ := id h
  have sd := hD.1
  exact i_X6_fault (k_X6_fault_0 (q1 := dp) (q2 := 1) (c_read h ok hrp r2 r3 hR hD) (fun z u hu => k_X6_fault_15 ⟨_, rfl, hu.1, h.dft hrp r2 r3 hR hD hu.2.2, hu.2.2.fc (fun a ha => by unfold PcR at ha; omega)⟩))
/-- the two rooms changed over -/
def Sw (w u : Wd) : Prop := u.1 = w.1 ∧ (∀ a k, wI u a k = wI w a k) ∧ ∀ a k, ¬ (a = 0 ∧ (k = 2 ∨ k = 3)) → wR u a k = wR w a k
theorem Sw.sh {w u : Wd} (g : Sw w u) (a : Nat) : sh u a = sh w a := by
  show (if a < u.1 then shp[a]? else none) = if a < w.1 then shp[a]? else none
  rw [g.1]
theorem Sw.r {w u : Wd} (g : Sw w u) {a : Nat} (ha : 0 < a) (k : Int) : wR u a k = wR w a k := g.2.2 a k (fun q => by omega)
theorem RoomS.sw {w u : Wd} {r : Nat} (h : RoomS w r) (g : Sw w u) (hr : 0 < r) : RoomS u r := by
  unfold RoomS at h ⊢
  simp only [g.sh, g.r hr]
  exact h
theorem RoomC.sw {w u : Wd} {r : Nat} {ρ : Rm} (h : RoomC w r ρ) (g : Sw w u) (hr : 0 < r) : RoomC u r ρ := by
  obtain ⟨h0, h1, h2, h3⟩ := h
  exact ⟨h0.sw g hr, fun i a b => by rw [g.2.1]; exact h1 i a b, fun s a b => by rw [g.2.1, g.2.1, g.2.1]; exact h2 s a b, fun k a b => by rw [g.2.1]; exact h3 k a b⟩
theorem CarS.sw {w u : Wd} {c : Nat} (h : CarS w c) (g : Sw w u) (hc : 0 < c) : CarS u c := by
  unfold CarS at h ⊢
  simp only [g.sh, g.r hc]
  exact h
theorem ShS.sw {w u : Wd} {s m : Nat} (h : ShS w s m) (g : Sw w u) (hs : 0 < s) : ShS u s m := by
  obtain ⟨h0, h1, h2, h3⟩ := h
  exact ⟨by rw [g.sh]; exact h0, by rw [g.sh]; exact h1, by rw [g.r hs]; exact h2, fun i hi => ⟨by rw [g.r (by omega)]; exact (h3 i hi).1, (h3 i hi).2.sw g (by omega)⟩⟩
theorem ClsS.sw {w u : Wd} (h : ClsS w) (g : Sw w u) : ClsS u := by
  have h17 := h.2.2.2.sw g (by decide)
  have e : ∀ k : Int, ¬ (k = 2 ∨ k = 3) → wR u 0 k = wR w 0 k := fun k hk => g.2.2 0 k (fun q => hk q.2)
  unfold ClsS at h ⊢
  simp only [g.sh, g.r (show 0 < 54 by decide), g.r (show 0 < 57 by decide), e 0 (by decide), e 4 (by decide), e 5 (by decide), e 6 (by decide), e 7 (by decide), e 8 (by decide), e 9 (by decide), e 10 (by decide)]
  exact ⟨h.1, h.2.1, h.2.2.1, h17⟩
theorem c_lay {σ : Sg} (h : RC w σ) (ok : okS σ) : SpI Γ m_X6_lay [vR 0] w (CQ w (fLay σ)) := by
  obtain ⟨⟨⟨s0, s1, -⟩, ⟨r0, -⟩, -⟩, ⟨rp, dp, hrp, r2, r3, hR, hD⟩, -⟩ := id h
  have sd := hD.1
  have hx := tx_r ok
  refine i_X6_lay (k_X6_lay_0 (q1 := dp) (q2 := 1) (c_read h ok hrp r2 r3 hR hD) (fun z u hu => ?_))
  obtain ⟨rfl, hRd, hF⟩ := hu
  have hU := h.dft hrp r2 r3 hR hD hF
  have hFC : FC w u := hF.fc (fun a ha => by unfold PcR at ha; omega)
  have hx' : -4 ≤ fFault σ ∧ fFault σ ≤ 200 := hx
  refine k_X6_lay_15 (fun q => k_X6_lay_30 ⟨_, rfl, ?_⟩) (fun q => ?_)
  · have e : fLay σ = (-2, σ) := if_neg (fun y => q y.1)
    rw [e]
    exact ⟨rfl, hU, hFC⟩
  have hRd := hRd q
  obtain ⟨⟨⟨s0u, s1u, s54u, -⟩, ⟨r0u, r4u, r5u, r6u, r7u, r8u, r9u, r10u⟩, -⟩, -, -, hCu, hUu, hEu, hSu⟩ := id hU
  have hRp := hR.fr hF (fun a a1 a2 a3 => by unfold PcR at a3; omega)
  have sdu := hRd.1.1
  have r2u : wR u 0 2 = vR rp := by rw [hF.2.2]; exact r2
  have r3u : wR u 0 3 = vR dp := by rw [hF.2.2]; exact r3
  have e5 : wI u dp 5 = rS (txF σ.1).2 0 := hRd.2.1 0 (by omega) (by omega)
  have okD' : okD (txF σ.1).2 := sc_ok 201 0 defR okD_def
  have o0 := okD'.1
  refine k_X6_lay_20 (q1 := dp) (fun q2 => ?_) (fun q2 => k_X6_lay_30 ⟨_, rfl, ?_⟩)
  rotate_left
  · have e : fLay σ = (-2, σ) := if_neg (fun y => y.2 (by omega))
    rw [e]
    exact ⟨rfl, hU, hFC⟩
  have eL : fLay σ = (rS (txF σ.1).2 0, newS σ (txF σ.1).2) := if_pos ⟨q, by omega⟩
  have okr : okR (txF σ.1).2 := okD'.r (by omega)
  rw [eL]
  generalize hρ : (txF σ.1).2 = ρ at *
  have e8 : wI u dp 8 = rS ρ 3 := hRd.2.1 3 (by omega) (by omega)
  have hSw : Sw u (stR (stR u 0 2 (vR dp)) 0 3 (vR rp)) := ⟨rfl, fun _ _ => rfl, fun a k hk => by rw [wR_stR, if_neg (fun y => hk ⟨y.1, Or.inr y.2⟩), wR_stR, if_neg (fun y => hk ⟨y.1, Or.inl y.2⟩)]⟩
  have v2 : wR (stR (stR u 0 2 (vR dp)) 0 3 (vR rp)) 0 2 = vR dp := rfl
  have v3 : wR (stR (stR u 0 2 (vR dp)) 0 3 (vR rp)) 0 3 = vR rp := rfl
  have v4 : wR (stR (stR u 0 2 (vR dp)) 0 3 (vR rp)) 0 4 = vR 14 := r4u
  have sCu := hCu.1.1
  have hCc := sp_carClear (Γ := Γ) (hCu.1.sw hSw (by decide)) okr
  rw [← e8] at hCc
  have hK := hU.1.sw hSw
  have hU' := hUu.1.sw hSw (by decide)
  have hE' := hEu.1.sw hSw (by decide)
  have hT' : TxC (stR (stR u 0 2 (vR dp)) 0 3 (vR rp)) σ.1 := hU.2.2.1
  have hRd' := hRd.sw hSw (by omega)
  have hRp' := hRp.1.sw hSw (by omega)
  have wv : FC u (stR (stR u 0 2 (vR dp)) 0 3 (vR rp)) := ⟨hSw.1, fun a _ k => hSw.2.1 a k, fun a ha k => hSw.r (by omega) k⟩
  refine k_X6_lay_33 (q1 := rp) (q2 := dp) (q3 := 14) (q4 := dp) hCc (fun v hv => ?_)
  obtain ⟨hC1, hF1⟩ := hv
  generalize stR (stR u 0 2 (vR dp)) 0 3 (vR rp) = y at *
  have hK1 := hK.fr hF1
  obtain ⟨⟨s0v, s1v, s54v, -⟩, ⟨r0v, r4v, r5v, r6v, r7v, r8v, r9v, r10v⟩, -⟩ := id hK1
  have hU1 := hU'.fr hF1
  have hE1 := hE'.fr hF1
  have sU1 := hU1.1
  have sE1 := hE1.1
  refine k_X6_lay_65 (q1 := 20) (sp_shClear (ρ := ρ) hU1 (by decide) (gU σ).2) (fun v1 hv1 => ?_)
  obtain ⟨hU2, hF2⟩ := hv1
  have hK2 := hK1.fr hF2
  obtain ⟨⟨s0w, s1w, s54w, -⟩, ⟨r0w, r4w, r5w, r6w, r7w, r8w, r9w, r10w⟩, -⟩ := id hK2
  have hE2 := hE1.fr hF2
  have sE2 := hE2.1
  refine k_X6_lay_72 (q1 := 46) (sp_shClear (ρ := ρ) hE2 (by decide) (gE σ).2) (fun v2 hv2 => ?_)
  obtain ⟨hE3, hF3⟩ := hv2
  have hK3 := hK2.fr hF3
  obtain ⟨⟨s0x, s1x, s54x, -⟩, ⟨r0x, r4x, r5x, r6x, r7x, r8x, r9x, r10x⟩, -⟩ := id hK3
  refine k_X6_lay_79 (q1 := 54) (sp_siClear s54x (gV σ).2) (fun v3 hv3 => ?_)
  obtain ⟨hS4, hF4⟩ := hv3
  have g4 : Fr (fun a => Pc3 14 a ∨ a = 20 ∨ a = 46 ∨ a = 54) y v3 := (((hF1.mono (fun a ha => Or.inl ha)).trans (hF2.mono (fun a ha => Or.inr (Or.inl ha)))).trans (hF3.mono (fun a ha => Or.inr (Or.inr (Or.inl ha))))).trans (hF4.mono (fun a ha => Or.inr (Or.inr (Or.inr ha))))
  have g2 : Fr (fun a => a = 20 ∨ a = 46 ∨ a = 54) v v3 := ((hF2.mono (fun a ha => Or.inl ha)).trans (hF3.mono (fun a ha => Or.inr (Or.inl ha)))).trans (hF4.mono (fun a ha => Or.inr (Or.inr ha)))
  have g3 : Fr (fun a => a = 46 ∨ a = 54) v1 v3 := (hF3.mono (fun a ha => Or.inl ha)).trans (hF4.mono (fun a ha => Or.inr ha))
  have hn : ∀ a, ¬ (Pc3 14 a ∨ a = 20 ∨ a = 46 ∨ a = 54) ↔ ¬ (14 ≤ a ∧ a ≤ 16) ∧ a ≠ 20 ∧ a ≠ 46 ∧ a ≠ 54 := fun a => by unfold Pc3; omega
  have hK4 := hK3.fr hF4
  have hR4 := hRd'.fr g4 (fun a a1 a2 => (hn a).2 (by omega))
  have hD4 := hRp'.fr g4
  have t2 : wR v3 0 2 = vR dp := by rw [g4.2.2]; assumption
  have t3 : wR v3 0 3 = vR rp := by rw [g4.2.2]; assumption
  obtain ⟨⟨s0z, -⟩, -⟩ := id hK4
  have sR4 := hR4.1.1
  have e54 : wI v3 dp 5 = rS ρ 0 := hR4.2.1 0 (by omega) (by omega)
  refine k_X6_lay_86 (q1 := dp) ⟨_, rfl, e54, ⟨hK4, ⟨dp, rp, by omega, t2, t3, hR4, hD4⟩, hT'.fr g4 ⟨(hn 0).2 (by omega), (hn 1).2 (by omega)⟩, hC1.fr g2 (fun a a1 a2 => by omega), hU2.fr g3 (fun a a1 a2 => by omega) (by decide), hE3.fr hF4 (fun a a1 a2 => by omega) (by decide), hS4⟩, (hFC.trans wv).trans (g4.fc (fun a ha => by unfold Pc3 at ha; omega))⟩
end
