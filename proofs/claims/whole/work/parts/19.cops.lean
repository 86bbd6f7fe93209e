section
variable {Γ : Gm} {w : Wd}
theorem Sp_mono {μ : Mu} {as : List Value} {Q Q' : Option Value → Wd → Prop} (h : Sp Γ μ as w Q) (hq : ∀ v u, Q v u → Q' v u) : Sp Γ μ as w Q' := fun p e a1 a2 a3 s m args below f ap P K => by
  obtain ⟨n, o, b1, b2, b3, ⟨⟨⟨v, w', c1, c2, c3, c4⟩, c5⟩, c6⟩⟩ := h p e a1 a2 a3 s m args below f ap P K
  exact ⟨n, o, b1, b2, b3, ⟨⟨⟨v, w', c1, hq _ _ c2, c3, c4⟩, c5⟩, c6⟩⟩
theorem G_SpV_mono {μ : Mu} {as : List Value} {Q Q' : Wd → Prop} (h : SpV Γ μ as w Q) (hq : ∀ u, Q u → Q' u) : SpV Γ μ as w Q' := Sp_mono h (fun v u k => ⟨k.1, hq u k.2⟩)
/-- an answer, the class's half behind it, and nothing of the model's changed -/
def CQ (w : Wd) (r : Int × Sg) : Int → Wd → Prop := fun z u => z = r.1 ∧ RC u r.2 ∧ FC w u
theorem cq_same {σ : Sg} {z : Int} (h : RC w σ) : CQ w (z, σ) z w := ⟨rfl, h, FC.rfl⟩
theorem okS.r {σ : Sg} (ok : okS σ) : okR (gR σ) := ok.2.2.1
theorem okS.k {σ : Sg} (ok : okS σ) : okK (gR σ) (gK σ) := ok.2.2.2.1.1
theorem c_write {σ : Sg} {a : Int} (h : RC w σ) (ok : okS σ) (ha : sm a) : SpI Γ m_X6_write [vR 0, vI a] w (CQ w (fWrite σ a)) := by
  obtain ⟨⟨⟨s0, s1, s54, s55, s56, s57, s58, s59, s60, s61⟩, ⟨r0, r4, r5, r6, r7, r8, r9, r10⟩, -⟩, -, ⟨hn, hx⟩, -⟩ := id h
  have on := ok.1
  have hn : wI w 0 1 = gN σ := hn
  have hx : ∀ k : Int, 0 ≤ k → k < gN σ → wI w 1 k = gX σ k := hx
  unfold fWrite
  by_cases h1 : 32 ≤ a ∧ a ≤ 126
  · rw [if_pos h1]
    refine i_X6_write (k_X6_write_0 (sp_within1 h1 ha (by omega) (by omega)) (fun _ => ?_) (fun q => absurd q (by decide)))
    by_cases h2 : gN σ < 200
    · rw [if_pos h2]
      refine k_X6_write_13 (fun q => absurd q (by omega)) (fun _ => k_X6_write_20 (q1 := 1) (n2 := 200) (fun _ => ?_) (fun q => absurd q (by omega)))
      have e1 : wI (stI w 1 (wI w 0 1) a) 0 1 = wI w 0 1 := wI_st_ne (by decide)
      refine k_X6_write_35 (q1 := 1) (n2 := 200) ⟨_, rfl, ?_⟩
      rw [e1]
      have hF : Fr (fun q => q = 0 ∨ q = 1) w (stI (stI w 1 (wI w 0 1) a) 0 1 (wI w 0 1 + 1)) := (Fr.st (Or.inr rfl)).trans (Fr.st (Or.inl rfl))
      obtain ⟨g0, g1, g2, g3, g4, g5, g6⟩ := id h
      refine ⟨by show wI w 0 1 + 1 = gN σ + 1; omega, ⟨g0.fr hF, g1.fr hF (fun q q1 q2 => by omega), ⟨by rw [wI_hit, hn], fun k k0 k1 => ?_⟩, g3.fr hF (fun q q1 q2 => by omega), g4.fr hF (fun q q1 q2 => by omega) (by omega), g5.fr hF (fun q q1 q2 => by omega) (by omega), g6.fr hF ⟨by decide, by decide, by decide⟩⟩, hF.fc (fun q hq => by omega)⟩
      rw [wI_st_ne (by decide), hn]
      show _ = (if k = gN σ then a else gX σ k)
      by_cases e : k = gN σ
      · subst e; rw [wI_hit, if_pos rfl]
      · rw [wI_skip e, if_neg e]
        have k1' : k < gN σ + 1 := k1
        exact hx k k0 (by omega)
    · rw [if_neg h2]
      exact k_X6_write_13 (fun q => absurd q (by omega)) (fun _ => k_X6_write_20 (q1 := 1) (n2 := 200) (fun q => absurd q (by omega)) (fun _ => k_X6_write_32 ⟨_, rfl, cq_same h⟩))
  · rw [if_neg h1]
    exact i_X6_write (k_X6_write_0 (sp_within0 h1 ha (by omega) (by omega)) (fun q => absurd rfl q) (fun _ => k_X6_write_11 ⟨_, rfl, cq_same h⟩))
theorem c_wipe {σ : Sg} (h : RC w σ) : SpI Γ m_X6_wipe [vR 0] w (CQ w (fWipe σ)) := by
  obtain ⟨g0, g1, g2, g3, g4, g5, g6⟩ := id h
  have s0 := g0.1.1
  have hF : Fr (fun q => q = 0) w (stI w 0 1 0) := Fr.st rfl
  refine i_X6_wipe (k_X6_wipe_0 ⟨_, rfl, g2.1, ⟨g0.fr hF, g1.fr hF (fun q q1 q2 => by omega), ⟨by rw [wI_hit]; rfl, fun k k0 k1 => ?_⟩, g3.fr hF (fun q q1 q2 => by omega), g4.fr hF (fun q q1 q2 => by omega) (by omega), g5.fr hF (fun q q1 q2 => by omega) (by omega), g6.fr hF ⟨by decide, by decide, by decide⟩⟩, hF.fc (fun q hq => by omega)⟩)
  have k1' : k < 0 := k1
  omega
theorem c_strip {σ : Sg} {s k : Int} (h : RC w σ) (ok : okS σ) (hs : sm s) (hk : sm k) : SpI Γ m_X6_strip [vR 0, vI s, vI k] w (CQ w (fStrip σ s k, σ)) := by
  obtain ⟨⟨⟨s0, s1, s54, s55, s56, s57, s58, s59, s60, s61⟩, ⟨r0, r4, r5, r6, r7, r8, r9, r10⟩, -⟩, ⟨rp, dp, hrp, r2, r3, hR, hD⟩, -, hC, -⟩ := id h
  have sr := hR.1.1
  have sc := hC.1.1
  have e5 := hR.2.1 0 (by omega) (by omega)
  rw [show (0 : Int) + 5 = 5 by rfl] at e5
  have om := ok.r.1
  unfold fStrip
  by_cases h1 : 0 ≤ s ∧ s ≤ rS (gR σ) 0 - 1
  · rw [if_pos h1]
    have hst := sp_strips (Γ := Γ) hR ok.r (s := s) (by omega)
    refine i_X6_strip (k_X6_strip_0 (q1 := rp) (z2 := 1) (by rw [e5]; exact sp_within1 h1 hs (by omega) (by omega)) (fun _ => ?_) (fun q => absurd q (by decide)))
    refine k_X6_strip_19 (fun q => ?_) (fun q => ?_) (fun q => ?_) (fun q => ?_) (fun q => ?_) (fun q => ?_)
    · rw [if_pos q]; exact k_X6_strip_56 (q1 := rp) hst.1 ⟨_, rfl, cq_same h⟩
    · rw [if_neg (by omega), if_pos q]; exact k_X6_strip_65 (q1 := rp) hst.2.1 ⟨_, rfl, cq_same h⟩
    · rw [if_neg (by omega), if_neg (by omega), if_pos q]; exact k_X6_strip_74 (q1 := rp) hst.2.2 ⟨_, rfl, cq_same h⟩
    · rw [if_neg (by omega), if_neg (by omega), if_neg (by omega), if_pos q]
      exact k_X6_strip_83 (q1 := 14) (sp_lengthOver hC ok.r ok.k (by omega)) ⟨_, rfl, cq_same h⟩
    · rw [if_neg (by omega), if_neg (by omega), if_neg (by omega), if_neg (by omega), if_pos q]
      have hz : seamK (gK σ) s = 0 ∨ seamK (gK σ) s = 1 := by unfold seamK; split <;> omega
      refine k_X6_strip_92 (q1 := 14) (sp_isSeamAt hC ok.r ok.k (by omega)) (fun q2 => k_X6_strip_107 ⟨_, rfl, ?_⟩) (fun q2 => k_X6_strip_103 ⟨_, rfl, ?_⟩)
      · rw [q2]; exact cq_same h
      · rw [hz.resolve_left q2]; exact cq_same h
    · rw [if_neg q.1, if_neg q.2.1, if_neg q.2.2.1, if_neg q.2.2.2.1, if_neg q.2.2.2.2]
      exact k_X6_strip_109 ⟨_, rfl, cq_same h⟩
  · rw [if_neg h1]
    exact i_X6_strip (k_X6_strip_0 (q1 := rp) (z2 := 0) (by rw [e5]; exact sp_within0 h1 hs (by omega) (by omega)) (fun q => absurd rfl q) (fun _ => k_X6_strip_17 ⟨_, rfl, cq_same h⟩))
theorem c_wall {σ : Sg} {i k : Int} (h : RC w σ) (ok : okS σ) (hi : sm i) (hk : sm k) : SpI Γ m_X6_wall [vR 0, vI i, vI k] w (CQ w (fWall σ i k, σ)) := by
  obtain ⟨⟨⟨s0, s1, s54, s55, s56, s57, s58, s59, s60, s61⟩, ⟨r0, r4, r5, r6, r7, r8, r9, r10⟩, -⟩, -, -, hC, -⟩ := id h
  have sc := hC.1.1
  unfold fWall
  by_cases h1 : 0 ≤ i ∧ i ≤ 3
  · rw [if_pos h1]
    have hi4 : 0 ≤ i ∧ i < 4 := by omega
    have b1 := bit_r ok.k.2.2.2.2.1 hi4
    have b2 := bit_r ok.k.2.2.2.2.2.1 hi4
    have ht := ok.k.2.2.2.1 i hi4.1 hi4.2
    refine i_X6_wall (k_X6_wall_0 (sp_isWall1 h1) (fun _ => ?_) (fun q => absurd q (by decide)))
    refine k_X6_wall_9 (fun q => ?_) (fun q => ?_) (fun q => ?_) (fun q => ?_) (fun q => ?_)
    · rw [if_pos q]; exact k_X6_wall_40 (q1 := 14) (sp_tight hC hi4) ⟨_, rfl, cq_same h⟩
    · rw [if_neg (by omega), if_pos q]
      refine k_X6_wall_49 (q1 := 14) (sp_isHooked hC ok.k hi4) (fun q2 => k_X6_wall_64 ⟨_, rfl, ?_⟩) (fun q2 => k_X6_wall_60 ⟨_, rfl, ?_⟩)
      · rw [q2]; exact cq_same h
      · rw [b1.resolve_left q2]; exact cq_same h
    · rw [if_neg (by omega), if_neg (by omega), if_pos q]
      refine k_X6_wall_66 (q1 := 14) (sp_isTorn hC ok.k hi4) (fun q2 => k_X6_wall_81 ⟨_, rfl, ?_⟩) (fun q2 => k_X6_wall_77 ⟨_, rfl, ?_⟩)
      · rw [q2]; exact cq_same h
      · rw [b2.resolve_left q2]; exact cq_same h
    · rw [if_neg (by omega), if_neg (by omega), if_neg (by omega), if_pos q]
      -- waving
      by_cases q3 : bit (kH (gK σ)) i = 0
      · rw [if_pos q3]
        have hw : SpP Γ m_X0_isWaving [vR 14, vI i] w 0 := i_X0_isWaving (k_X0_isWaving_0 (sp_isHooked hC ok.k hi4) (fun _ => k_X0_isWaving_21 (rp rfl)) (fun q4 => absurd q3 q4))
        exact k_X6_wall_83 (q1 := 14) hw (fun _ => k_X6_wall_98 ⟨_, rfl, cq_same h⟩) (fun q4 => absurd rfl q4)
      · rw [if_neg q3]
        by_cases q5 : 2 ≤ kT (gK σ) i
        · rw [if_pos q5]
          have hw : SpP Γ m_X0_isWaving [vR 14, vI i] w 0 := i_X0_isWaving (k_X0_isWaving_0 (sp_isHooked hC ok.k hi4) (fun q4 => absurd q4 q3) (fun _ => k_X0_isWaving_8 (sp_tight hC hi4) (fun _ => k_X0_isWaving_21 (rp rfl)) (fun q6 => absurd q5 q6)))
          exact k_X6_wall_83 (q1 := 14) hw (fun _ => k_X6_wall_98 ⟨_, rfl, cq_same h⟩) (fun q4 => absurd rfl q4)
        · rw [if_neg q5]
          have hw : SpP Γ m_X0_isWaving [vR 14, vI i] w 1 := i_X0_isWaving (k_X0_isWaving_0 (sp_isHooked hC ok.k hi4) (fun q4 => absurd q4 q3) (fun _ => k_X0_isWaving_8 (sp_tight hC hi4) (fun q6 => absurd q6 q5) (fun _ => k_X0_isWaving_17 (rp rfl))))
          exact k_X6_wall_83 (q1 := 14) hw (fun q4 => absurd q4 (by decide)) (fun _ => k_X6_wall_94 ⟨_, rfl, cq_same h⟩)
    · rw [if_neg q.1, if_neg q.2.1, if_neg q.2.2.1, if_neg q.2.2.2]
      exact k_X6_wall_100 ⟨_, rfl, cq_same h⟩
  · rw [if_neg h1]
    exact i_X6_wall (k_X6_wall_0 (sp_isWall0 hi h1) (fun q => absurd rfl q) (fun _ => k_X6_wall_7 ⟨_, rfl, cq_same h⟩))
theorem c_damp {σ : Sg} {m : Int} (h : RC w σ) (ok : okS σ) (hm : sm m) : SpI Γ m_X6_damp [vR 0, vI m] w (CQ w (fDamp σ m, σ)) := by
  obtain ⟨⟨⟨s0, s1, s54, s55, s56, s57, s58, s59, s60, s61⟩, ⟨r0, r4, r5, r6, r7, r8, r9, r10⟩, -⟩, ⟨rp, dp, hrp, r2, r3, hR, hD⟩, -⟩ := id h
  have sr := hR.1.1
  unfold fDamp
  by_cases h1 : 0 ≤ m ∧ m ≤ 999
  · rw [if_pos h1]
    exact i_X6_damp (k_X6_damp_0 (sp_within1 h1 hm (by omega) (by omega)) (fun q => absurd q (by decide)) (fun _ => k_X6_damp_11 (q1 := rp) (sp_dampOf hR ok.r (by omega)) ⟨_, rfl, cq_same h⟩))
  · rw [if_neg h1]
    exact i_X6_damp (k_X6_damp_0 (sp_within0 h1 hm (by omega) (by omega)) (fun _ => k_X6_damp_22 ⟨_, rfl, cq_same h⟩) (fun q => absurd rfl q))
/-- an act: the carpet is put on the shelf, then it changes -/
theorem push_act {σ : Sg} (h : RC w σ) (ok : okS σ) : SpV Γ m_X4_push [vR 20, vR 14] w (fun u => RC u (noteS σ (gK σ)) ∧ Fr (PcS 20 8) w u) := by
  obtain ⟨g0, g1, g2, g3, g4, g5, g6⟩ := id h
  have o8 := ok.2.2.2.2.1.1
  have hh := sp_push (Γ := Γ) g4 g3 ok.r ok.k (by decide) (by exact o8) (Or.inl (by decide))
  refine G_SpV_mono hh (fun u hu => ⟨?_, hu.2⟩)
  exact h.act hu.2 (fun a ha => by unfold PcS at ha; omega) (g3.fr hu.2 (fun a a1 a2 => by unfold PcS; omega)) hu.1 (g5.fr hu.2 (fun a a1 a2 => by unfold PcS; omega) (by omega))
theorem c_cut {σ : Sg} {b : Int} (h : RC w σ) (ok : okS σ) (hb : sm b) : SpI Γ m_X6_cut [vR 0, vI b] w (CQ w (fCut σ b)) := by
  obtain ⟨⟨⟨s0, s1, s54, s55, s56, s57, s58, s59, s60, s61⟩, ⟨r0, r4, r5, r6, r7, r8, r9, r10⟩, -⟩, ⟨rp, dp, hrp, r2, r3, hR, hD⟩, -, hC, hU, -⟩ := id h
  have sc := hC.1.1
  have su := hU.1.1
  unfold fCut
  by_cases h1 : 1 ≤ b ∧ b ≤ 6
  · rw [if_pos h1]
    refine i_X6_cut (k_X6_cut_0 (sp_within1 h1 hb (by omega) (by omega)) (fun _ => ?_) (fun q => absurd q (by decide)))
    by_cases h2 : cutOk (gR σ) (gK σ) b
    · rw [if_pos h2]
      refine k_X6_cut_12 (q1 := 14) (q2 := rp) (sp_canCut1 hC hR ok.r ok.k h1 h2) (fun _ => ?_) (fun q => absurd q (by decide))
      refine k_X6_cut_30 (q1 := 20) (q2 := 14) (push_act h ok) (fun u hu => ?_)
      obtain ⟨hRC, hF⟩ := hu
      obtain ⟨⟨⟨s0u, -⟩, ⟨-, r4u, -⟩, -⟩, -, -, hCu, hUu, hEu, -⟩ := id hRC
      have scu := hCu.1.1
      have r2u : wR u 0 2 = vR rp := by rw [hF.2.2]; exact r2
      have hRu := hR.fr hF (fun a a1 a2 => by unfold PcS; rcases hrp with q | q <;> omega)
      refine k_X6_cut_41 (q1 := 14) (q2 := rp) (sp_cutFor hCu hRu ok.r ok.k h1 h2) (fun z v hv => ?_)
      obtain ⟨rfl, hCv, hFv⟩ := hv
      refine k_X6_cut_53 ⟨_, rfl, rfl, ?_, (hF.fc (fun a ha => by unfold PcS at ha; omega)).trans (hFv.fc (fun a ha => by unfold Pc3 at ha; omega))⟩
      exact hRC.act hFv (fun a ha => by unfold Pc3 at ha; omega) hCv (hUu.fr hFv (fun a a1 a2 => by unfold Pc3; omega) (by omega)) (hEu.fr hFv (fun a a1 a2 => by unfold Pc3; omega) (by omega))
    · rw [if_neg h2]
      exact k_X6_cut_12 (q1 := 14) (q2 := rp) (sp_canCut0 hC hR ok.r ok.k h1 h2) (fun q => absurd rfl q) (fun _ => k_X6_cut_27 ⟨_, rfl, cq_same h⟩)
  · rw [if_neg h1]
    exact i_X6_cut (k_X6_cut_0 (sp_within0 h1 hb (by omega) (by omega)) (fun q => absurd rfl q) (fun _ => k_X6_cut_10 ⟨_, rfl, cq_same h⟩))
theorem c_hook {σ : Sg} {i f : Int} (h : RC w σ) (ok : okS σ) (hi : sm i) (hf : sm f) : SpI Γ m_X6_hook [vR 0, vI i, vI f] w (CQ w (fHook σ i f)) := by
  obtain ⟨⟨⟨s0, s1, s54, s55, s56, s57, s58, s59, s60, s61⟩, ⟨r0, r4, r5, r6, r7, r8, r9, r10⟩, -⟩, ⟨rp, dp, hrp, r2, r3, hR, hD⟩, -, hC, hU, -⟩ := id h
  have sc := hC.1.1
  have su := hU.1.1
  unfold fHook
  by_cases h1 : 0 ≤ i ∧ i ≤ 3
  · have hi4 : 0 ≤ i ∧ i < 4 := by omega
    refine i_X6_hook (k_X6_hook_0 (sp_isWall1 h1) (fun q => absurd q (by decide)) (fun _ => ?_))
    by_cases h2 : 0 ≤ f ∧ f ≤ 20
    · rw [if_pos ⟨h1, h2⟩]
      refine k_X6_hook_7 (sp_within1 h2 hf (by omega) (by omega)) (fun _ => ?_) (fun q => absurd q (by decide))
      by_cases h3 : covK (gK σ) = rS (gR σ) 0
      · refine k_X6_hook_19 (q1 := 14) (q2 := rp) (sp_isCovered1 hC hR ok.r ok.k h3) (fun q => absurd q (by decide)) (fun _ => ?_)
        by_cases h4 : freeK (gK σ) i
        · rw [if_pos ⟨h3, h4⟩]
          refine k_X6_hook_33 (q1 := 14) (sp_isFree1 hC ok.k hi4 h4) (fun _ => ?_) (fun q => absurd q (by decide))
          refine k_X6_hook_47 (q1 := 20) (q2 := 14) (push_act h ok) (fun u hu => ?_)
          obtain ⟨hRC, hF⟩ := hu
          obtain ⟨⟨⟨s0u, -⟩, ⟨-, r4u, -⟩, -⟩, -, -, hCu, hUu, hEu, -⟩ := id hRC
          have scu := hCu.1.1
          have r2u : wR u 0 2 = vR rp := by rw [hF.2.2]; exact r2
          have hRu := hR.fr hF (fun a a1 a2 => by unfold PcS; rcases hrp with q | q <;> omega)
          refine k_X6_hook_58 (q1 := 14) (q2 := rp) (sp_hookOn hCu hRu ok.r ok.k hi4 h2) (fun z v hv => ?_)
          obtain ⟨rfl, hCv, hFv⟩ := hv
          refine k_X6_hook_71 ⟨_, rfl, rfl, ?_, (hF.fc (fun a ha => by unfold PcS at ha; omega)).trans (hFv.fc (fun a ha => by unfold Pc3 at ha; omega))⟩
          exact hRC.act hFv (fun a ha => by unfold Pc3 at ha; omega) hCv (hUu.fr hFv (fun a a1 a2 => by unfold Pc3; omega) (by omega)) (hEu.fr hFv (fun a a1 a2 => by unfold Pc3; omega) (by omega))
        · rw [if_neg (fun q => h4 q.2)]
          exact k_X6_hook_33 (q1 := 14) (sp_isFree0 hC ok.k hi4 h4) (fun q => absurd rfl q) (fun _ => k_X6_hook_44 ⟨_, rfl, cq_same h⟩)
      · rw [if_neg (fun q => h3 q.1)]
        exact k_X6_hook_19 (q1 := 14) (q2 := rp) (sp_isCovered0 hC hR ok.r ok.k h3) (fun _ => k_X6_hook_44 ⟨_, rfl, cq_same h⟩) (fun q => absurd rfl q)
    · rw [if_neg (fun q => h2 q.2)]
      exact k_X6_hook_7 (sp_within0 h2 hf (by omega) (by omega)) (fun q => absurd rfl q) (fun _ => k_X6_hook_17 ⟨_, rfl, cq_same h⟩)
  · rw [if_neg (fun q => h1 q.1)]
    exact i_X6_hook (k_X6_hook_0 (sp_isWall0 hi h1) (fun _ => k_X6_hook_17 ⟨_, rfl, cq_same h⟩) (fun q => absurd rfl q))
theorem c_letGo {σ : Sg} {i : Int} (h : RC w σ) (ok : okS σ) (hi : sm i) : SpI Γ m_X6_letGo [vR 0, vI i] w (CQ w (fLetGo σ i)) := by
  obtain ⟨⟨⟨s0, s1, s54, s55, s56, s57, s58, s59, s60, s61⟩, ⟨r0, r4, r5, r6, r7, r8, r9, r10⟩, -⟩, -, -, hC, hU, -⟩ := id h
  have sc := hC.1.1
  have su := hU.1.1
  unfold fLetGo
  by_cases h1 : 0 ≤ i ∧ i ≤ 3
  · rw [if_pos h1]
    have hi4 : 0 ≤ i ∧ i < 4 := by omega
    have b1 := bit_r ok.k.2.2.2.2.1 hi4
    refine i_X6_letGo (k_X6_letGo_0 (sp_isWall1 h1) (fun _ => ?_) (fun q => absurd q (by decide)))
    refine k_X6_letGo_9 (q1 := 14) (sp_isHooked hC ok.k hi4) (fun q => ?_) (fun q => ?_)
    · rw [if_neg q]
      refine k_X6_letGo_23 (q1 := 20) (q2 := 14) (push_act h ok) (fun u hu => ?_)
      obtain ⟨hRC, hF⟩ := hu
      obtain ⟨⟨⟨s0u, -⟩, ⟨-, r4u, -⟩, -⟩, -, -, hCu, hUu, hEu, -⟩ := id hRC
      have scu := hCu.1.1
      refine k_X6_letGo_34 (q1 := 14) (sp_unhook hCu hi4) (fun z v hv => ?_)
      obtain ⟨rfl, hCv, hFv⟩ := hv
      refine k_X6_letGo_42 ⟨_, rfl, rfl, ?_, (hF.fc (fun a ha => by unfold PcS at ha; omega)).trans (hFv.fc (fun a ha => by unfold Pc3 at ha; omega))⟩
      exact hRC.act hFv (fun a ha => by unfold Pc3 at ha; omega) hCv (hUu.fr hFv (fun a a1 a2 => by unfold Pc3; omega) (by omega)) (hEu.fr hFv (fun a a1 a2 => by unfold Pc3; omega) (by omega))
    · rw [if_pos q]
      exact k_X6_letGo_20 ⟨_, rfl, cq_same h⟩
  · rw [if_neg h1]
    exact i_X6_letGo (k_X6_letGo_0 (sp_isWall0 hi h1) (fun q => absurd rfl q) (fun _ => k_X6_letGo_7 ⟨_, rfl, cq_same h⟩))
end
