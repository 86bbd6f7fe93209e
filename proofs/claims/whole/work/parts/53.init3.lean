section
variable {Γ : Gm} {w : Wd}
/-- all the model's arrays made -/
theorem rho0_L : (rL rho0 0 = 11 ∧ rG rho0 0 = 3 ∧ rT rho0 0 = 2) ∧ (rL rho0 1 = 11 ∧ rG rho0 1 = 7 ∧ rT rho0 1 = 1) ∧ (rL rho0 2 = 12 ∧ rG rho0 2 = 2 ∧ rT rho0 2 = 8) ∧ (rL rho0 3 = 9 ∧ rG rho0 3 = 1 ∧ rT rho0 3 = 3) ∧ (rL rho0 4 = 9 ∧ rG rho0 4 = 5 ∧ rT rho0 4 = 0) ∧ (rL rho0 5 = 11 ∧ rG rho0 5 = 0 ∧ rT rho0 5 = 6) ∧ rL rho0 6 = 11 ∧ rG rho0 6 = 4 ∧ rT rho0 6 = 4 := by decide +kernel
theorem rho0_D : rD rho0 0 = 3 ∧ rD rho0 1 = 5 ∧ rD rho0 2 = 8 ∧ rD rho0 3 = 2 := by decide +kernel
/-- seven strips told -/
def stS (w : Wd) (i a b c : Int) : Wd := stI (stI (stI w 68 (3 * i) a) 68 (3 * i + 1) b) 68 (3 * i + 2) c
theorem stS_fr {i a b c : Int} : Fr (fun q => q = 68) w (stS w i a b c) := ((Fr.st (P := fun q => q = 68) rfl).trans (Fr.st (P := fun q => q = 68) rfl)).trans (Fr.st (P := fun q => q = 68) rfl)
theorem stS_at {i a b c j : Int} : wI (stS w i a b c) 68 j = if j = 3 * i + 2 then c else if j = 3 * i + 1 then b else if j = 3 * i then a else wI w 68 j := by
  unfold stS
  simp only [wI_stI, true_and]
theorem sp_addStrip {i a b c : Int} (hM : ModS w) (hi : 0 ≤ i ∧ i < 12) : SpV Γ m_X7_addStrip [vR 63, vI i, vI a, vI b, vI c] w (fun u => u = stS w i a b c) := by
  obtain ⟨⟨c0, c1, c2, c3, c4, c5, c6, c7, c8, c9, c10, c11, c12, c13, c14⟩, d1, d2, d3, d4, d5, d6, d7, d8, d9, d10, d11, d12, d13, d14⟩ := id hM
  exact i_X7_addStrip (k_X7_addStrip_0 (q1 := 68) (n2 := 36) ⟨rfl, rfl⟩)
def wStrips (w : Wd) : Wd := stS (stS (stS (stS (stS (stS (stS w 0 11 3 2) 1 11 7 1) 2 12 2 8) 3 9 1 3) 4 9 5 0) 5 11 0 6) 6 11 4 4
theorem sp_X7_init (hc : w.1 = 64) (hz : ∀ k, wI w 63 k = 0) : SpV Γ m_X7_init [vR 63] w (fun u => RM u sig0 ∧ u.1 = 78 ∧ Gq (fun a => a < 63) w u) := by
  obtain ⟨n, f, g⟩ := w
  have hn : n = 64 := hc
  subst hn
  refine i_X7_init (k_X7_init_0 (h1 := ⟨_, rfl⟩) (h2 := rfl) (h4 := rfl) (h5 := rfl) (h7 := rfl) (h8 := rfl) (h10 := rfl) ?_)
  refine k_X7_init_29 (h1 := rfl) (h3 := rfl) (h4 := rfl) (h6 := rfl) (h7 := rfl) (h9 := rfl) ?_
  refine k_X7_init_53 (h1 := rfl) (h3 := rfl) (h4 := rfl) (h6 := rfl) (h7 := rfl) (h9 := rfl) ?_
  refine k_X7_init_77 (h1 := rfl) (h3 := rfl) (h4 := rfl) (h6 := rfl) (h7 := rfl) (h9 := rfl) ?_
  have m1 : ∀ {v : Wd} {k : Int}, 63 < v.1 → Gq (fun a => a < 63) v (mk v 63 k) := fun h => mk_gq (fun a ha => ⟨by omega, by omega⟩)
  have hM : ModS (mk (mk (mk (mk (mk (mk (mk (mk (mk (mk (mk (mk (mk (mk (64, f, g) 63 1) 63 6) 63 7) 63 8) 63 11) 63 12) 63 13) 63 14) 63 15) 63 16) 63 18) 63 21) 63 22) 63 23) := ⟨⟨rfl, rfl, rfl, rfl, rfl, rfl, rfl, rfl, rfl, rfl, rfl, rfl, rfl, rfl, rfl⟩, rfl, rfl, rfl, rfl, rfl, rfl, rfl, rfl, rfl, rfl, rfl, rfl, rfl, rfl⟩
  have hG : Gq (fun a => a < 63) (64, f, g) (mk (mk (mk (mk (mk (mk (mk (mk (mk (mk (mk (mk (mk (mk (64, f, g) 63 1) 63 6) 63 7) 63 8) 63 11) 63 12) 63 13) 63 14) 63 15) 63 16) 63 18) 63 21) 63 22) 63 23) := (((((((((((((m1 (Nat.le_of_ble_eq_true rfl)).trans (m1 (Nat.le_of_ble_eq_true rfl))).trans (m1 (Nat.le_of_ble_eq_true rfl))).trans (m1 (Nat.le_of_ble_eq_true rfl))).trans (m1 (Nat.le_of_ble_eq_true rfl))).trans (m1 (Nat.le_of_ble_eq_true rfl))).trans (m1 (Nat.le_of_ble_eq_true rfl))).trans (m1 (Nat.le_of_ble_eq_true rfl))).trans (m1 (Nat.le_of_ble_eq_true rfl))).trans (m1 (Nat.le_of_ble_eq_true rfl))).trans (m1 (Nat.le_of_ble_eq_true rfl))).trans (m1 (Nat.le_of_ble_eq_true rfl))).trans (m1 (Nat.le_of_ble_eq_true rfl))).trans (m1 (Nat.le_of_ble_eq_true rfl))
  have hZ : ∀ k, wI (mk (mk (mk (mk (mk (mk (mk (mk (mk (mk (mk (mk (mk (mk (64, f, g) 63 1) 63 6) 63 7) 63 8) 63 11) 63 12) 63 13) 63 14) 63 15) 63 16) 63 18) 63 21) 63 22) 63 23) 63 k = 0 := hz
  have h71 : ∀ k, wI (mk (mk (mk (mk (mk (mk (mk (mk (mk (mk (mk (mk (mk (mk (64, f, g) 63 1) 63 6) 63 7) 63 8) 63 11) 63 12) 63 13) 63 14) 63 15) 63 16) 63 18) 63 21) 63 22) 63 23) 71 k = 0 := fun k => rfl
  have hN : (mk (mk (mk (mk (mk (mk (mk (mk (mk (mk (mk (mk (mk (mk (64, f, g) 63 1) 63 6) 63 7) 63 8) 63 11) 63 12) 63 13) 63 14) 63 15) 63 16) 63 18) 63 21) 63 22) 63 23).1 = 78 := rfl
  have c9 : SpV Γ m_X7_addStrip [vR 63, vI 0, vI 11, vI 3, vI 2] (mk (mk (mk (mk (mk (mk (mk (mk (mk (mk (mk (mk (mk (mk (64, f, g) 63 1) 63 6) 63 7) 63 8) 63 11) 63 12) 63 13) 63 14) 63 15) 63 16) 63 18) 63 21) 63 22) 63 23) (fun u => u = _) := sp_addStrip hM (by decide)
  refine k_X7_init_102 (h1 := rfl) (h3 := rfl) (h4 := rfl) (h6 := rfl) (h8 := rfl) c9 (fun u hu => ?_)
  clear c9
  generalize mk (mk (mk (mk (mk (mk (mk (mk (mk (mk (mk (mk (mk (mk (64, f, g) 63 1) 63 6) 63 7) 63 8) 63 11) 63 12) 63 13) 63 14) 63 15) 63 16) 63 18) 63 21) 63 22) 63 23 = x at *
  subst hu
  have hM1 := hM.fr (stS_fr (i := 0) (a := 11) (b := 3) (c := 2))
  refine k_X7_init_127 (h2 := hM1.1.1) (sp_addStrip hM1 (by decide)) (fun u hu => ?_)
  subst hu
  have hM2 := hM1.fr (stS_fr (i := 1) (a := 11) (b := 7) (c := 1))
  refine k_X7_init_137 (h2 := hM2.1.1) (sp_addStrip hM2 (by decide)) (fun u hu => ?_)
  subst hu
  have hM3 := hM2.fr (stS_fr (i := 2) (a := 12) (b := 2) (c := 8))
  refine k_X7_init_147 (h2 := hM3.1.1) (sp_addStrip hM3 (by decide)) (fun u hu => ?_)
  subst hu
  have hM4 := hM3.fr (stS_fr (i := 3) (a := 9) (b := 1) (c := 3))
  refine k_X7_init_156 (h2 := hM4.1.1) (sp_addStrip hM4 (by decide)) (fun u hu => ?_)
  subst hu
  have hM5 := hM4.fr (stS_fr (i := 4) (a := 9) (b := 5) (c := 0))
  refine k_X7_init_165 (h2 := hM5.1.1) (sp_addStrip hM5 (by decide)) (fun u hu => ?_)
  subst hu
  have hM6 := hM5.fr (stS_fr (i := 5) (a := 11) (b := 0) (c := 6))
  refine k_X7_init_175 (h2 := hM6.1.1) (sp_addStrip hM6 (by decide)) (fun u hu => ?_)
  subst hu
  have hM7 := hM6.fr (stS_fr (i := 6) (a := 11) (b := 4) (c := 4))
  have F7 : Fr (fun q => q = 68) x (wStrips x) := (((((stS_fr.trans stS_fr).trans stS_fr).trans stS_fr).trans stS_fr).trans stS_fr).trans stS_fr
  have A : ∀ j, wI (wStrips x) 68 j = wI (stS (stS (stS (stS (stS (stS (stS x 0 11 3 2) 1 11 7 1) 2 12 2 8) 3 9 1 3) 4 9 5 0) 5 11 0 6) 6 11 4 4) 68 j := fun _ => rfl
  have hM7 : ModS (wStrips x) := hM7
  show G Γ m_X7_init _ _ _ 185 [some (vR 63)] [] (wStrips x)
  have B : (wI (wStrips x) 68 0 = 11 ∧ wI (wStrips x) 68 1 = 3 ∧ wI (wStrips x) 68 2 = 2) ∧ (wI (wStrips x) 68 3 = 11 ∧ wI (wStrips x) 68 4 = 7 ∧ wI (wStrips x) 68 5 = 1) ∧ (wI (wStrips x) 68 6 = 12 ∧ wI (wStrips x) 68 7 = 2 ∧ wI (wStrips x) 68 8 = 8) ∧ (wI (wStrips x) 68 9 = 9 ∧ wI (wStrips x) 68 10 = 1 ∧ wI (wStrips x) 68 11 = 3) ∧ (wI (wStrips x) 68 12 = 9 ∧ wI (wStrips x) 68 13 = 5 ∧ wI (wStrips x) 68 14 = 0) ∧ (wI (wStrips x) 68 15 = 11 ∧ wI (wStrips x) 68 16 = 0 ∧ wI (wStrips x) 68 17 = 6) ∧ wI (wStrips x) 68 18 = 11 ∧ wI (wStrips x) 68 19 = 4 ∧ wI (wStrips x) 68 20 = 4 := ⟨⟨rfl, rfl, rfl⟩, ⟨rfl, rfl, rfl⟩, ⟨rfl, rfl, rfl⟩, ⟨rfl, rfl, rfl⟩, ⟨rfl, rfl, rfl⟩, ⟨rfl, rfl, rfl⟩, rfl, rfl, rfl⟩
  have hZ7 : ∀ k, wI (wStrips x) 63 k = 0 := fun k => (F7.2.1 63 (by decide) k).trans (hZ k)
  have h717 : ∀ k, wI (wStrips x) 71 k = 0 := fun k => (F7.2.1 71 (by decide) k).trans (h71 k)
  have hN7 : (wStrips x).1 = 78 := F7.1.trans hN
  have hG7 : Gq (fun a => a < 63) (64, f, g) (wStrips x) := hG.trans (Gq.fr F7 (fun a ha q => by omega))
  clear hM hM1 hM2 hM3 hM4 hM5 hM6 A F7 hZ h71 hN hG m1
  generalize wStrips x = y at *
  obtain ⟨⟨c0, c1, c2, c3, c4, c5, c6, c7, c8, c9, c10, c11, c12, c13, c14⟩, d1, d2, d3, d4, d5, d6, d7, d8, d9, d10, d11, d12, d13, d14⟩ := id hM7
  refine k_X7_init_185 (q1 := 70) (q13 := 69) (n2 := 6) (n4 := 6) (n6 := 6) (n8 := 6) (n10 := 6) (n12 := 6) (n14 := 12) (n16 := 12) (h1 := c0) (h2 := c0) (h3 := d7) (h4 := c7) (h7 := c0) (h8 := c7) (h11 := c0) (h12 := c7) (h15 := c0) (h16 := c7) (h19 := c0) (h20 := c7) (h23 := c0) (h24 := c7) (h27 := c0) (h28 := d6) (h29 := c6) (h32 := c0) (h33 := c6) ?_
  have F8 : Fr (fun q => q = 63 ∨ q = 69 ∨ q = 70) y (stI (stI (stI (stI (stI (stI (stI (stI (stI y 63 9 7) 70 0 3) 70 1 50) 70 2 2) 70 3 12) 70 4 1) 70 5 3) 69 0 3) 69 1 5) := ((((((((Fr.st (Or.inl rfl)).trans (Fr.st (Or.inr (Or.inr rfl)))).trans (Fr.st (Or.inr (Or.inr rfl)))).trans (Fr.st (Or.inr (Or.inr rfl)))).trans (Fr.st (Or.inr (Or.inr rfl)))).trans (Fr.st (Or.inr (Or.inr rfl)))).trans (Fr.st (Or.inr (Or.inr rfl)))).trans (Fr.st (Or.inr (Or.inl rfl)))).trans (Fr.st (Or.inr (Or.inl rfl)))
  have F9 : Fr (fun q => q = 63 ∨ q = 69 ∨ q = 70) y (stI (stI (stI (stI (stI (stI (stI (stI (stI (stI (stI (stI y 63 9 7) 70 0 3) 70 1 50) 70 2 2) 70 3 12) 70 4 1) 70 5 3) 69 0 3) 69 1 5) 69 2 8) 69 3 2) 63 10 4) := ((F8.trans (Fr.st (Or.inr (Or.inl rfl)))).trans (Fr.st (Or.inr (Or.inl rfl)))).trans (Fr.st (Or.inl rfl))
  have s63 : ∀ k, k ≠ 9 → k ≠ 10 → wI (stI (stI (stI (stI (stI (stI (stI (stI (stI (stI (stI (stI y 63 9 7) 70 0 3) 70 1 50) 70 2 2) 70 3 12) 70 4 1) 70 5 3) 69 0 3) 69 1 5) 69 2 8) 69 3 2) 63 10 4) 63 k = 0 := fun k h1 h2 => by
    rw [wI_skip h2, wI_st_ne (by decide), wI_st_ne (by decide), wI_st_ne (by decide), wI_st_ne (by decide), wI_st_ne (by decide), wI_st_ne (by decide), wI_st_ne (by decide), wI_st_ne (by decide), wI_st_ne (by decide), wI_st_ne (by decide), wI_skip h1]
    exact hZ7 k
  obtain ⟨r0, r1, r2, r3, r4, r5, r6, r7⟩ := rho0_s
  refine k_X7_init_249 (q1 := 69) (n2 := 12) (n4 := 12) (h1 := c0) (h2 := d6) (h3 := c6) (h6 := c0) (h7 := c6) (h10 := c0) ⟨rfl, ⟨⟨hM7.fr F9, ?_, ?_, fun i i0 i1 => ?_, fun s s0 s1 => ?_, fun k k0 k1 => ?_⟩, ⟨s63 0 (by decide) (by decide), fun k a b => ?_⟩, ⟨(by rw [F9.sh]; exact c8), ?_, fun k k0 k1 => ?_, fun i i0 i1 => ?_, ?_, ?_, ?_⟩, ⟨s63 17 (by decide) (by decide), fun j a b => ?_⟩, ⟨s63 19 (by decide) (by decide), fun j a b => ?_⟩, ⟨s63 20 (by decide) (by decide), fun k a b => ?_⟩⟩, hN7, hG7.trans (Gq.fr F9 (fun a ha q => by omega))⟩
  · show 7 = rS rho0 0; rw [r0]
  · show 4 = rS rho0 1; rw [r1]
  · have hi : i = 0 ∨ i = 1 ∨ i = 2 ∨ i = 3 ∨ i = 4 ∨ i = 5 := by omega
    rcases hi with rfl | rfl | rfl | rfl | rfl | rfl
    · show 3 = rS rho0 2; rw [r2]
    · show 50 = rS rho0 3; rw [r3]
    · show 2 = rS rho0 4; rw [r4]
    · show 12 = rS rho0 5; rw [r5]
    · show 1 = rS rho0 6; rw [r6]
    · show 3 = rS rho0 7; rw [r7]
  · have s1' : s < rS rho0 0 := s1
    rw [r0] at s1'
    rw [F9.2.1 68 (by decide), F9.2.1 68 (by decide), F9.2.1 68 (by decide)]
    obtain ⟨B0, B1, B2, B3, B4, B5, B6⟩ := B
    obtain ⟨L0, L1, L2, L3, L4, L5, L6⟩ := rho0_L
    show wI y 68 (3 * s) = rL rho0 s ∧ wI y 68 (3 * s + 1) = rG rho0 s ∧ wI y 68 (3 * s + 2) = rT rho0 s
    have hs : s = 0 ∨ s = 1 ∨ s = 2 ∨ s = 3 ∨ s = 4 ∨ s = 5 ∨ s = 6 := by omega
    rcases hs with rfl | rfl | rfl | rfl | rfl | rfl | rfl
    · exact ⟨B0.1.trans L0.1.symm, B0.2.1.trans L0.2.1.symm, B0.2.2.trans L0.2.2.symm⟩
    · exact ⟨B1.1.trans L1.1.symm, B1.2.1.trans L1.2.1.symm, B1.2.2.trans L1.2.2.symm⟩
    · exact ⟨B2.1.trans L2.1.symm, B2.2.1.trans L2.2.1.symm, B2.2.2.trans L2.2.2.symm⟩
    · exact ⟨B3.1.trans L3.1.symm, B3.2.1.trans L3.2.1.symm, B3.2.2.trans L3.2.2.symm⟩
    · exact ⟨B4.1.trans L4.1.symm, B4.2.1.trans L4.2.1.symm, B4.2.2.trans L4.2.2.symm⟩
    · exact ⟨B5.1.trans L5.1.symm, B5.2.1.trans L5.2.1.symm, B5.2.2.trans L5.2.2.symm⟩
    · exact ⟨B6.1.trans L6.1.symm, B6.2.1.trans L6.2.1.symm, B6.2.2.trans L6.2.2.symm⟩
  · have k1' : k < rS rho0 1 := k1
    rw [r1] at k1'
    obtain ⟨D0, D1, D2, D3⟩ := rho0_D
    have hk : k = 0 ∨ k = 1 ∨ k = 2 ∨ k = 3 := by omega
    rcases hk with rfl | rfl | rfl | rfl
    · show 3 = rD rho0 0; rw [D0]
    · show 5 = rD rho0 1; rw [D1]
    · show 8 = rD rho0 2; rw [D2]
    · show 2 = rD rho0 3; rw [D3]
  · have b' : k < 0 := b
    omega
  · rw [F9.2.1 71 (by decide)]; exact h717 0
  · have k1' : k < 0 := k1
    omega
  · rw [F9.2.1 71 (by decide)]; exact h717 _
  · rw [F9.2.1 71 (by decide)]; exact h717 _
  · rw [F9.2.1 71 (by decide)]; exact h717 _
  · rw [F9.2.1 71 (by decide)]; exact h717 _
  · have b' : j < 0 := b
    omega
  · have b' : j < 0 := b
    omega
  · have b' : k < 0 := b
    omega
end
