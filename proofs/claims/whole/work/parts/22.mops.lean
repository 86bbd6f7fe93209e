section
variable {Γ : Gm} {w : Wd}
/-- an answer, the model's half behind it, and nothing of the other half changed -/
def MR (w : Wd) (r : Int × Sg) : Int → Wd → Prop := fun z u => z = r.1 ∧ RM u r.2 ∧ Fr (fun a => 63 ≤ a) w u
theorem mr_same {σ : Sg} {z : Int} (h : RM w σ) : MR w (z, σ) z w := ⟨rfl, h, Fr.rfl⟩
theorem RM.now {w u : Wd} {σ : Sg} {κ : Kp} (h : RM w σ) (g : Fr (fun q => q = 71) w u) (hC : CarA u 71 (gR σ) κ) : RM u (σ.1, gR σ, κ, gU σ, gE σ, gV σ) := by
  have e := g.2.1 63 (by decide)
  exact h.act g (fun a ha => by omega) (fun k _ => e k) hC (h.2.2.2.1.fr g (e _) (by decide)) (h.2.2.2.2.1.fr g (e _) (by decide))
theorem m_write {σ : Sg} {a : Int} (h : RM w σ) (ok : okS σ) (ha : sm a) : SpI Γ m_X7_write [vR 63, vI a] w (MR w (fWrite σ a)) := by
  obtain ⟨hM, ⟨hn, hx⟩, hA, hU, hE, hV⟩ := id h
  obtain ⟨⟨c0, c1, c2, c3, c4, c5, c6, c7, c8, c9, c10, c11, c12, c13, c14⟩, d1, d2, d3, d4, d5, d6, d7, d8, d9, d10, d11, d12, d13, d14⟩ := id hM.1
  have on := ok.1
  have hn : wI w 63 0 = gN σ := hn
  have hx : ∀ k : Int, 0 ≤ k → k < gN σ → wI w 64 k = gX σ k := hx
  unfold fWrite
  by_cases h1 : 32 ≤ a ∧ a ≤ 126
  · rw [if_pos h1]
    refine i_X7_write (k_X7_write_0 (sp_in1 h1 ha (by omega) (by omega)) (fun _ => ?_) (fun q => absurd q (by decide)))
    by_cases h2 : gN σ < 200
    · rw [if_pos h2]
      have e1 : wI (stI w 64 (wI w 63 0) a) 63 0 = wI w 63 0 := wI_st_ne (by decide)
      refine k_X7_write_13 (fun _ => k_X7_write_26 (q1 := 64) (n2 := 200) ⟨_, rfl, ?_⟩) (fun q => absurd q (by omega))
      rw [e1]
      have hF : Fr (fun q => q = 63 ∨ q = 64) w (stI (stI w 64 (wI w 63 0) a) 63 0 (wI w 63 0 + 1)) := (Fr.st (Or.inr rfl)).trans (Fr.st (Or.inl rfl))
      have es : ∀ k, k ≠ 0 → wI (stI (stI w 64 (wI w 63 0) a) 63 0 (wI w 63 0 + 1)) 63 k = wI w 63 k := fun k hk => by rw [wI_skip hk, wI_st_ne (by decide)]
      refine ⟨by show wI w 63 0 + 1 = gN σ + 1; omega, ⟨hM.fr hF ⟨es 9 (by decide), es 10 (by decide)⟩ (by decide), ⟨by rw [wI_hit, hn], fun k k0 k1 => ?_⟩, hA.fr hF (by decide), hU.fr hF (es _ (by decide)) (by decide), hE.fr hF (es _ (by decide)) (by decide), hV.fr hF (es _ (by decide)) (by decide)⟩, hF.mono (fun q hq => by omega)⟩
      rw [wI_st_ne (by decide), hn]
      show _ = (if k = gN σ then a else gX σ k)
      by_cases e : k = gN σ
      · subst e; rw [wI_hit, if_pos rfl]
      · rw [wI_skip e, if_neg e]
        have k1' : k < gN σ + 1 := k1
        exact hx k k0 (by omega)
    · rw [if_neg h2]
      exact k_X7_write_13 (fun q => absurd q (by omega)) (fun _ => k_X7_write_23 ⟨_, rfl, mr_same h⟩)
  · rw [if_neg h1]
    exact i_X7_write (k_X7_write_0 (sp_in0 h1 ha (by omega) (by omega)) (fun q => absurd rfl q) (fun _ => k_X7_write_11 ⟨_, rfl, mr_same h⟩))
theorem m_wipe {σ : Sg} (h : RM w σ) : SpI Γ m_X7_wipe [vR 63] w (MR w (fWipe σ)) := by
  obtain ⟨hM, ⟨hn, hx⟩, hA, hU, hE, hV⟩ := id h
  have c0 := hM.1.1.1
  have hF : Fr (fun q => q = 63) w (stI w 63 0 0) := Fr.st rfl
  have es : ∀ k, k ≠ 0 → wI (stI w 63 0 0) 63 k = wI w 63 k := fun k hk => wI_skip hk
  refine i_X7_wipe (k_X7_wipe_0 ⟨_, rfl, hn, ⟨hM.fr hF ⟨es 9 (by decide), es 10 (by decide)⟩ (by decide), ⟨by rw [wI_hit]; rfl, fun k k0 k1 => ?_⟩, hA.fr hF (by decide), hU.fr hF (es _ (by decide)) (by decide), hE.fr hF (es _ (by decide)) (by decide), hV.fr hF (es _ (by decide)) (by decide)⟩, hF.mono (fun q hq => by omega)⟩)
  have k1' : k < 0 := k1
  omega
theorem m_strip {σ : Sg} {s k : Int} (h : RM w σ) (ok : okS σ) (hs : sm s) (hk : sm k) : SpI Γ m_X7_strip [vR 63, vI s, vI k] w (MR w (fStrip σ s k, σ)) := by
  obtain ⟨hM, -, hA, -⟩ := id h
  obtain ⟨⟨c0, c1, c2, c3, c4, c5, c6, c7, c8, c9, c10, c11, c12, c13, c14⟩, d1, d2, d3, d4, d5, d6, d7, d8, d9, d10, d11, d12, d13, d14⟩ := id hM.1
  have e9 := hM.2.1
  have o0 := ok.r.1
  have l1 := lov_r ok.r ok.k s
  have l2 := lov_r ok.r ok.k (s + 1)
  unfold fStrip
  by_cases h1 : 0 ≤ s ∧ s ≤ rS (gR σ) 0 - 1
  · rw [if_pos h1]
    refine i_X7_strip (k_X7_strip_0 (z1 := 1) (by rw [e9]; exact sp_in1 h1 hs (by omega) (by omega)) (fun q => absurd q (by decide)) (fun _ => ?_))
    have hst := hM.2.2.2.2.1 s h1.1 (by omega)
    by_cases h2 : 0 ≤ k ∧ k ≤ 4
    · refine k_X7_strip_14 (sp_in1 h2 hk (by omega) (by omega)) (fun _ => ?_) (fun q => absurd q (by decide))
      refine k_X7_strip_25 (fun q => ?_) (fun q => k_X7_strip_30 (q1 := 68) (n2 := 36) ⟨_, rfl, ?_, h, Fr.rfl⟩)
      · rw [if_neg (by omega), if_neg (by omega), if_neg (by omega)]
        refine k_X7_strip_41 (sp_lengthOf hM hA ok.r ok.k (by omega)) (sp_lengthOf hM hA ok.r ok.k (by omega)) (fun q2 => ?_) (fun q2 => ?_)
        · rw [if_neg q2, if_pos (by omega)]
          unfold seamK
          refine k_X7_strip_65 (fun q3 => k_X7_strip_88 ?_) (fun q3 => k_X7_strip_71 (fun q4 => k_X7_strip_88 ?_) (fun q4 => k_X7_strip_78 (fun q5 => k_X7_strip_88 ?_) (fun q5 => k_X7_strip_84 ?_)))
          · rw [if_neg (fun q => q.1 q3)]; exact ⟨_, rfl, mr_same h⟩
          · rw [if_neg (fun q => q.2.1 q4)]; exact ⟨_, rfl, mr_same h⟩
          · rw [if_neg (fun q => q.2.2 q5)]; exact ⟨_, rfl, mr_same h⟩
          · rw [if_pos ⟨q3, q4, q5⟩]; exact ⟨_, rfl, mr_same h⟩
        · rw [if_pos q2]
          exact k_X7_strip_61 ⟨_, rfl, mr_same h⟩
      · show _ = if k = 0 then _ else _
        by_cases k0 : k = 0
        · rw [if_pos k0, k0, Int.add_zero]; exact hst.1
        · by_cases k1 : k = 1
          · rw [if_neg k0, if_pos k1, k1]; exact hst.2.1
          · rw [if_neg k0, if_neg k1, if_pos (by omega), show k = 2 by omega]; exact hst.2.2
    · rw [if_neg (by omega), if_neg (by omega), if_neg (by omega), if_neg (by omega), if_neg (by omega)]
      exact k_X7_strip_14 (sp_in0 h2 hk (by omega) (by omega)) (fun q => absurd rfl q) (fun _ => k_X7_strip_23 ⟨_, rfl, mr_same h⟩)
  · rw [if_neg h1]
    exact i_X7_strip (k_X7_strip_0 (z1 := 0) (by rw [e9]; exact sp_in0 h1 hs (by omega) (by omega)) (fun _ => k_X7_strip_23 ⟨_, rfl, mr_same h⟩) (fun q => absurd rfl q))
theorem m_wall {σ : Sg} {i k : Int} (h : RM w σ) (ok : okS σ) (hi : sm i) (hk : sm k) : SpI Γ m_X7_wall [vR 63, vI i, vI k] w (MR w (fWall σ i k, σ)) := by
  obtain ⟨hM, -, hA, -⟩ := id h
  obtain ⟨⟨c0, c1, c2, c3, c4, c5, c6, c7, c8, c9, c10, c11, c12, c13, c14⟩, d1, d2, d3, d4, d5, d6, d7, d8, d9, d10, d11, d12, d13, d14⟩ := id hM.1
  obtain ⟨-, a0, aB, aT, aH, aN, aM⟩ := id hA
  unfold fWall
  by_cases h1 : 0 ≤ i ∧ i ≤ 3
  · rw [if_pos h1]
    have hi4 : 0 ≤ i ∧ i < 4 := by omega
    have b1 := bit_r ok.k.2.2.2.2.1 hi4
    have b2 := bit_r ok.k.2.2.2.2.2.1 hi4
    have ht := ok.k.2.2.2.1 i hi4.1 hi4.2
    have aTi := aT i hi4.1 hi4.2
    refine i_X7_wall (k_X7_wall_0 (sp_in1 h1 hi (by omega) (by omega)) (fun _ => ?_) (fun q => absurd q (by decide)))
    refine k_X7_wall_11 (fun q => ?_) (fun q => ?_) (fun q => ?_) (fun q => ?_) (fun q => ?_)
    · rw [if_pos q]; exact k_X7_wall_44 (q1 := 71) (n2 := 32) ⟨_, rfl, aTi, h, Fr.rfl⟩
    · rw [if_neg (by omega), if_pos q]
      exact k_X7_wall_54 (q1 := 71) (n2 := 32) ⟨_, rfl, by rw [aH]; rfl, h, Fr.rfl⟩
    · rw [if_neg (by omega), if_neg (by omega), if_pos q]
      exact k_X7_wall_66 (q1 := 71) (n2 := 32) ⟨_, rfl, by rw [aN]; rfl, h, Fr.rfl⟩
    · rw [if_neg (by omega), if_neg (by omega), if_neg (by omega), if_pos q]
      refine k_X7_wall_78 (q1 := 71) (sp_isHookedM hA ok.k hi4) (fun q2 => k_X7_wall_106 ?_) (fun q2 => k_X7_wall_89 (q1 := 71) (n2 := 32) (fun q3 => k_X7_wall_106 ?_) (fun q3 => k_X7_wall_102 ?_))
      · rw [if_pos q2]; exact ⟨_, rfl, mr_same h⟩
      · rw [aTi] at q3; rw [if_neg q2, if_pos q3]; exact ⟨_, rfl, mr_same h⟩
      · rw [aTi] at q3; rw [if_neg q2, if_neg q3]; exact ⟨_, rfl, mr_same h⟩
    · rw [if_neg q.1, if_neg q.2.1, if_neg q.2.2.1, if_neg q.2.2.2]
      exact k_X7_wall_108 ⟨_, rfl, mr_same h⟩
  · rw [if_neg h1]
    exact i_X7_wall (k_X7_wall_0 (sp_in0 h1 hi (by omega) (by omega)) (fun q => absurd rfl q) (fun _ => k_X7_wall_9 ⟨_, rfl, mr_same h⟩))
theorem m_damp {σ : Sg} {m : Int} (h : RM w σ) (ok : okS σ) (hm : sm m) : SpI Γ m_X7_damp [vR 63, vI m] w (MR w (fDamp σ m, σ)) := by
  obtain ⟨hM, -⟩ := id h
  have c0 := hM.1.1.1
  unfold fDamp
  by_cases h1 : 0 ≤ m ∧ m ≤ 999
  · rw [if_pos h1]
    exact i_X7_damp (k_X7_damp_0 (sp_in1 h1 hm (by omega) (by omega)) (fun q => absurd q (by decide)) (fun _ => k_X7_damp_11 (sp_dampBy hM ok.r (by omega)) ⟨_, rfl, mr_same h⟩))
  · rw [if_neg h1]
    exact i_X7_damp (k_X7_damp_0 (sp_in0 h1 hm (by omega) (by omega)) (fun _ => k_X7_damp_19 ⟨_, rfl, mr_same h⟩) (fun q => absurd rfl q))
theorem m_note {σ : Sg} (h : RM w σ) (ok : okS σ) : SpV Γ m_X7_note [vR 63] w (fun u => RM u (noteS σ (gK σ)) ∧ Fr (fun a => a = 63 ∨ a = 73) w u) := by
  obtain ⟨hM, hT, hA, hU, hE, hV⟩ := id h
  obtain ⟨⟨c0, c1, c2, c3, c4, c5, c6, c7, c8, c9, c10, c11, c12, c13, c14⟩, d1, d2, d3, d4, d5, d6, d7, d8, d9, d10, d11, d12, d13, d14⟩ := id hM.1
  have e17 : wI w 63 17 = (gU σ).1 := hU.1
  have o8 := ok.2.2.2.2.1
  have o8a := o8.1
  -- behind all
  have fin : ∀ v : Wd, Fr (fun a => a = 63 ∨ a = 73) w v → (∀ k, k ≠ 17 → wI v 63 k = wI w 63 k) → ShM v 17 73 (gR σ) (pushP 8 (gU σ) (gK σ)) → RM v (noteS σ (gK σ)) ∧ Fr (fun a => a = 63 ∨ a = 73) w v := fun v hF es hU2 =>
    ⟨h.act hF (fun a ha => by omega) (fun k hk => es k (by omega)) (hA.fr hF (by decide)) hU2 (hE.fr hF (es _ (by decide)) (by decide)), hF⟩
  by_cases h1 : (gU σ).1 = 8
  · refine i_X7_note (k_X7_note_0 (fun q => absurd q (by omega)) (fun _ => k_X7_note_9 (q1 := 73) (sp_bring c10 c10 (by omega) (by omega) (by omega) (by omega) (by omega) (Or.inr (by omega))) (fun u hu => ?_)))
    obtain ⟨hF1, hu⟩ := hu
    have hM1 := (hM.fr' hF1 (by decide)).1
    obtain ⟨⟨c0, c1, c2, c3, c4, c5, c6, c7, c8, c9, c10, c11, c12, c13, c14⟩, d1, d2, d3, d4, d5, d6, d7, d8, d9, d10, d11, d12, d13, d14⟩ := id hM1
    have e17u : wI u 63 17 = 8 := by rw [hF1.2.1 63 (by decide)]; omega
    have hF2 : Fr (fun q => q = 63) u (stI u 63 17 (wI u 63 17 - 1)) := Fr.st rfl
    refine k_X7_note_26 (q1 := 71) (q2 := 73) (sp_bring (na := 32) (nb := 256) (by rw [hF2.sh]; exact c8) (by rw [hF2.sh]; exact c10) (by omega) (by omega) (by omega) (by omega) (by omega) (Or.inl (by decide))) (fun v hv => ?_)
    obtain ⟨hF3, hv⟩ := hv
    have c0v : sh v 63 = some (.inr 7) := by rw [hF3.sh, hF2.sh]; exact c0
    have e17v : wI v 63 17 = 7 := by rw [hF3.2.1 63 (by decide), wI_hit, e17u]; rfl
    have hF : Fr (fun a => a = 63 ∨ a = 73) w (stI v 63 17 (wI v 63 17 + 1)) := (((hF1.mono (fun a ha => Or.inr ha)).trans (hF2.mono (fun a ha => Or.inl ha))).trans (hF3.mono (fun a ha => Or.inr ha))).trans (Fr.st (Or.inl rfl))
    refine k_X7_note_57 ⟨rfl, fin _ hF (fun k hk => by rw [wI_skip hk, hF3.2.1 63 (by decide), wI_skip hk, hF1.2.1 63 (by decide)]) ?_⟩
    unfold pushP
    rw [if_neg (by omega)]
    refine ⟨by rw [wI_hit, e17v, h1]; rfl, fun j j0 j1 => ?_⟩
    have j1' : j < (gU σ).1 := j1
    show CarM _ 73 (32 * j) (gR σ) (if j = 8 - 1 then gK σ else (gU σ).2 (j + 1))
    by_cases e : j = 8 - 1
    · rw [if_pos e]
      refine CarM.mv (a := 71) (o := 0) ok.r ok.k hA.toM (fun k k0 k1 => ?_)
      rw [wI_st_ne (by decide), hv, if_pos (by omega), wI_st_ne (by decide), hF1.2.1 71 (by decide)]
      congr 1
      omega
    · rw [if_neg e]
      refine CarM.mv (a := 73) (o := 32 * (j + 1)) ok.r (o8.2 (j + 1) (by omega) (by omega)).1 (hU.2 (j + 1) (by omega) (by omega)) (fun k k0 k1 => ?_)
      rw [wI_st_ne (by decide), hv, if_neg (by omega), wI_st_ne (by decide), hu, if_pos (by omega)]
      congr 1
      omega
  · refine i_X7_note (k_X7_note_0 (fun _ => k_X7_note_36 (q1 := 71) (q2 := 73) (sp_bring c8 c10 (by omega) (by omega) (by omega) (by omega) (by omega) (Or.inl (by decide))) (fun u hu => ?_)) (fun q => absurd q (by omega)))
    obtain ⟨hF1, hu⟩ := hu
    have c0u : sh u 63 = some (.inr 7) := by rw [hF1.sh]; exact c0
    have e17u : wI u 63 17 = (gU σ).1 := by rw [hF1.2.1 63 (by decide)]; exact e17
    have hF : Fr (fun a => a = 63 ∨ a = 73) w (stI u 63 17 (wI u 63 17 + 1)) := (hF1.mono (fun a ha => Or.inr ha)).trans (Fr.st (Or.inl rfl))
    refine k_X7_note_57 ⟨rfl, fin _ hF (fun k hk => by rw [wI_skip hk, hF1.2.1 63 (by decide)]) ?_⟩
    unfold pushP
    rw [if_pos (by omega)]
    refine ⟨by rw [wI_hit, e17u], fun j j0 j1 => ?_⟩
    have j1' : j < (gU σ).1 + 1 := j1
    show CarM _ 73 (32 * j) (gR σ) (if j = (gU σ).1 then gK σ else (gU σ).2 j)
    by_cases e : j = (gU σ).1
    · rw [if_pos e]
      refine CarM.mv (a := 71) (o := 0) ok.r ok.k hA.toM (fun k k0 k1 => ?_)
      rw [wI_st_ne (by decide), hu, if_pos (by omega)]
      congr 1
      omega
    · rw [if_neg e]
      refine CarM.mv (a := 73) (o := 32 * j) ok.r (o8.2 j j0 (by omega)).1 (hU.2 j j0 (by omega)) (fun k k0 k1 => ?_)
      rw [wI_st_ne (by decide), hu, if_neg (by omega)]
end
