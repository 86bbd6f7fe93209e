theorem k_L_law_0 {Γ : Gm} {Ret : Option Value → Wd → Prop} {kc ks : Nat} {w : Wd} {Q : Wd → Prop} (c5 : SpV Γ m_X6_init [vR w.1] (nwW w) Q) (kq : ∀ u : Wd, Q u → G Γ m_L_law Ret ((kc + 1) + m_X6_init.2.2.2.2.cells) ((ks + 11) + m_X6_init.2.2.2.2.slots) 7 [some (vR 999), none, none, none] [vR w.1] u) (h1 : shp[w.1]? = some (.inr 6) := by assumption) (h2 : kc + 1 ≤ m_L_law.2.2.2.2.cells ∧ ks + 11 ≤ m_L_law.2.2.2.2.slots := by decide) (h3 : (kc + 1) + m_X6_init.2.2.2.2.cells ≤ m_L_law.2.2.2.2.cells ∧ (ks + 11) + m_X6_init.2.2.2.2.slots ≤ m_L_law.2.2.2.2.slots := by decide) (h4 : sh (nwW w) w.1 = some (.inr 6) := by assumption) : G Γ m_L_law Ret kc ks 0 [some (vR 999), none, none, none] [] w := by
  refine G_new dL_law_0 cn_X6 tb_54 h1 h2 ?_
  refine G_dup dL_law_3 rfl ?_
  exact G_II (as := []) (st := [vR w.1]) dL_law_4 ml_RL_9 mc_X6_init rfl ⟨by decide, h3, Nat.le_of_ble_eq_true rfl⟩ h4 c5 (fun u hq => kq u hq)
theorem k_L_law_7 {Γ : Gm} {Ret : Option Value → Wd → Prop} {kc ks : Nat} {t0 : Nat} {o1 o2 o3 : Option Value} {w : Wd} {Q : Wd → Prop} (c5 : SpV Γ m_X7_init [vR w.1] (nwW w) Q) (kq : ∀ u : Wd, Q u → G Γ m_L_law Ret ((kc + 1) + m_X7_init.2.2.2.2.cells) ((ks + 27) + m_X7_init.2.2.2.2.slots) 15 [some (vR 999), some (vR t0), o2, o3] [vR w.1] u) (h1 : shp[w.1]? = some (.inr 7) := by assumption) (h2 : kc + 1 ≤ m_L_law.2.2.2.2.cells ∧ ks + 27 ≤ m_L_law.2.2.2.2.slots := by decide) (h3 : (kc + 1) + m_X7_init.2.2.2.2.cells ≤ m_L_law.2.2.2.2.cells ∧ (ks + 27) + m_X7_init.2.2.2.2.slots ≤ m_L_law.2.2.2.2.slots := by decide) (h4 : sh (nwW w) w.1 = some (.inr 7) := by assumption) : G Γ m_L_law Ret kc ks 7 [some (vR 999), o1, o2, o3] [vR t0] w := by
  refine G_astore_n dL_law_7 (by decide) rfl ?_
  refine G_new dL_law_8 cn_X7 tb_753 h1 h2 ?_
  refine G_dup dL_law_11 rfl ?_
  exact G_II (as := []) (st := [vR w.1]) dL_law_12 ml_RL_12 mc_X7_init rfl ⟨by decide, h3, Nat.le_of_ble_eq_true rfl⟩ h4 c5 (fun u hq => kq u hq)
theorem k_L_law_15 {Γ : Gm} {Ret : Option Value → Wd → Prop} {kc ks : Nat} {p1 t0 : Nat} {o2 o3 : Option Value} {w : Wd} (km : G Γ m_L_law Ret kc ks 18 [some (vR 999), some (vR p1), some (vR t0), some (vI 0)] [] w) : G Γ m_L_law Ret kc ks 15 [some (vR 999), some (vR p1), o2, o3] [vR t0] w := by
  refine G_astore_n dL_law_15 (by decide) rfl ?_
  refine G_const dL_law_16 ?_
  refine G_istore_n dL_law_17 (by decide) rfl ?_
  exact km
theorem k_L_law_18 {Γ : Gm} {Ret : Option Value → Wd → Prop} {kc ks : Nat} {a3 : Int} {p1 p2 : Nat} {w : Wd} (kt : ((Γ.2.2.2.2.2.1 : Int) - 5) < a3 → G Γ m_L_law Ret kc ks 803 [some (vR 999), some (vR p1), some (vR p2), some (vI a3)] [] w) (kf : ¬ (((Γ.2.2.2.2.2.1 : Int) - 5) < a3) → G Γ m_L_law Ret kc ks 26 [some (vR 999), some (vR p1), some (vR p2), some (vI a3)] [] w) (h1 : sm a3 := by omega) (h2 : sm ((Γ.2.2.2.2.2.1 : Int) - 5) := by omega) : G Γ m_L_law Ret kc ks 18 [some (vR 999), some (vR p1), some (vR p2), some (vI a3)] [] w := by
  refine G_iload_n dL_law_18 rfl ?_
  refine G_aload_n dL_law_19 rfl ?_
  refine G_slen rfl dL_law_20 ?_
  refine G_const dL_law_21 ?_
  refine G_isub dL_law_22 ?_
  exact G_icmp_gt dL_law_23 (by decide) h1 h2 kt kf
theorem k_L_law_803 {Γ : Gm} {Ret : Option Value → Wd → Prop} {kc ks : Nat} {o1 o2 o3 : Option Value} {w : Wd} (kr : Ret (some (vI 1)) w) (h1 : kc = m_L_law.2.2.2.2.cells ∧ ks ≤ m_L_law.2.2.2.2.slots := by decide) : G Γ m_L_law Ret kc ks 803 [some (vR 999), o1, o2, o3] [] w := by
  refine G_const dL_law_803 ?_
  exact G_reti dL_law_804 (Or.inr rfl) h1 kr
theorem k_L_law_26 {Γ : Gm} {Ret : Option Value → Wd → Prop} {kc ks : Nat} {a3 : Int} {p1 p2 : Nat} {w : Wd} (k156 : (zand (Γ.2.2.2.2.2.2 (a3).toNat).toInt 31) = 0 → G Γ m_L_law Ret kc ks 156 [some (vR 999), some (vR p1), some (vR p2), some (vI a3)] [] w) (k179 : (zand (Γ.2.2.2.2.2.2 (a3).toNat).toInt 31) = 1 → G Γ m_L_law Ret kc ks 179 [some (vR 999), some (vR p1), some (vR p2), some (vI a3)] [] w) (k192 : (zand (Γ.2.2.2.2.2.2 (a3).toNat).toInt 31) = 2 → G Γ m_L_law Ret kc ks 192 [some (vR 999), some (vR p1), some (vR p2), some (vI a3)] [] w) (k205 : (zand (Γ.2.2.2.2.2.2 (a3).toNat).toInt 31) = 3 → G Γ m_L_law Ret kc ks 205 [some (vR 999), some (vR p1), some (vR p2), some (vI a3)] [] w) (k218 : (zand (Γ.2.2.2.2.2.2 (a3).toNat).toInt 31) = 4 → G Γ m_L_law Ret kc ks 218 [some (vR 999), some (vR p1), some (vR p2), some (vI a3)] [] w) (k251 : (zand (Γ.2.2.2.2.2.2 (a3).toNat).toInt 31) = 5 → G Γ m_L_law Ret kc ks 251 [some (vR 999), some (vR p1), some (vR p2), some (vI a3)] [] w) (k284 : (zand (Γ.2.2.2.2.2.2 (a3).toNat).toInt 31) = 6 → G Γ m_L_law Ret kc ks 284 [some (vR 999), some (vR p1), some (vR p2), some (vI a3)] [] w) (k307 : (zand (Γ.2.2.2.2.2.2 (a3).toNat).toInt 31) = 7 → G Γ m_L_law Ret kc ks 307 [some (vR 999), some (vR p1), some (vR p2), some (vI a3)] [] w) (k330 : (zand (Γ.2.2.2.2.2.2 (a3).toNat).toInt 31) = 8 → G Γ m_L_law Ret kc ks 330 [some (vR 999), some (vR p1), some (vR p2), some (vI a3)] [] w) (k363 : (zand (Γ.2.2.2.2.2.2 (a3).toNat).toInt 31) = 9 → G Γ m_L_law Ret kc ks 363 [some (vR 999), some (vR p1), some (vR p2), some (vI a3)] [] w) (k386 : (zand (Γ.2.2.2.2.2.2 (a3).toNat).toInt 31) = 10 → G Γ m_L_law Ret kc ks 386 [some (vR 999), some (vR p1), some (vR p2), some (vI a3)] [] w) (k409 : (zand (Γ.2.2.2.2.2.2 (a3).toNat).toInt 31) = 11 → G Γ m_L_law Ret kc ks 409 [some (vR 999), some (vR p1), some (vR p2), some (vI a3)] [] w) (k422 : (zand (Γ.2.2.2.2.2.2 (a3).toNat).toInt 31) = 12 → G Γ m_L_law Ret kc ks 422 [some (vR 999), some (vR p1), some (vR p2), some (vI a3)] [] w) (k445 : (zand (Γ.2.2.2.2.2.2 (a3).toNat).toInt 31) = 13 → G Γ m_L_law Ret kc ks 445 [some (vR 999), some (vR p1), some (vR p2), some (vI a3)] [] w) (k468 : (zand (Γ.2.2.2.2.2.2 (a3).toNat).toInt 31) = 14 → G Γ m_L_law Ret kc ks 468 [some (vR 999), some (vR p1), some (vR p2), some (vI a3)] [] w) (k501 : (zand (Γ.2.2.2.2.2.2 (a3).toNat).toInt 31) = 15 → G Γ m_L_law Ret kc ks 501 [some (vR 999), some (vR p1), some (vR p2), some (vI a3)] [] w) (k514 : (zand (Γ.2.2.2.2.2.2 (a3).toNat).toInt 31) = 16 → G Γ m_L_law Ret kc ks 514 [some (vR 999), some (vR p1), some (vR p2), some (vI a3)] [] w) (k527 : (zand (Γ.2.2.2.2.2.2 (a3).toNat).toInt 31) = 17 → G Γ m_L_law Ret kc ks 527 [some (vR 999), some (vR p1), some (vR p2), some (vI a3)] [] w) (k560 : (zand (Γ.2.2.2.2.2.2 (a3).toNat).toInt 31) = 18 → G Γ m_L_law Ret kc ks 560 [some (vR 999), some (vR p1), some (vR p2), some (vI a3)] [] w) (k573 : (zand (Γ.2.2.2.2.2.2 (a3).toNat).toInt 31) = 19 → G Γ m_L_law Ret kc ks 573 [some (vR 999), some (vR p1), some (vR p2), some (vI a3)] [] w) (k596 : (zand (Γ.2.2.2.2.2.2 (a3).toNat).toInt 31) = 20 → G Γ m_L_law Ret kc ks 596 [some (vR 999), some (vR p1), some (vR p2), some (vI a3)] [] w) (k629 : (zand (Γ.2.2.2.2.2.2 (a3).toNat).toInt 31) = 21 → G Γ m_L_law Ret kc ks 629 [some (vR 999), some (vR p1), some (vR p2), some (vI a3)] [] w) (k652 : (zand (Γ.2.2.2.2.2.2 (a3).toNat).toInt 31) = 22 → G Γ m_L_law Ret kc ks 652 [some (vR 999), some (vR p1), some (vR p2), some (vI a3)] [] w) (k705 : (zand (Γ.2.2.2.2.2.2 (a3).toNat).toInt 31) = 23 → G Γ m_L_law Ret kc ks 705 [some (vR 999), some (vR p1), some (vR p2), some (vI a3)] [] w) (k748 : (zand (Γ.2.2.2.2.2.2 (a3).toNat).toInt 31) = 24 → G Γ m_L_law Ret kc ks 748 [some (vR 999), some (vR p1), some (vR p2), some (vI a3)] [] w) (k761 : (zand (Γ.2.2.2.2.2.2 (a3).toNat).toInt 31) = 25 → G Γ m_L_law Ret kc ks 761 [some (vR 999), some (vR p1), some (vR p2), some (vI a3)] [] w) (k774 : (zand (Γ.2.2.2.2.2.2 (a3).toNat).toInt 31) = 26 → G Γ m_L_law Ret kc ks 774 [some (vR 999), some (vR p1), some (vR p2), some (vI a3)] [] w) (kd : ((zand (Γ.2.2.2.2.2.2 (a3).toNat).toInt 31) ≠ 0 ∧ (zand (Γ.2.2.2.2.2.2 (a3).toNat).toInt 31) ≠ 1 ∧ (zand (Γ.2.2.2.2.2.2 (a3).toNat).toInt 31) ≠ 2 ∧ (zand (Γ.2.2.2.2.2.2 (a3).toNat).toInt 31) ≠ 3 ∧ (zand (Γ.2.2.2.2.2.2 (a3).toNat).toInt 31) ≠ 4 ∧ (zand (Γ.2.2.2.2.2.2 (a3).toNat).toInt 31) ≠ 5 ∧ (zand (Γ.2.2.2.2.2.2 (a3).toNat).toInt 31) ≠ 6 ∧ (zand (Γ.2.2.2.2.2.2 (a3).toNat).toInt 31) ≠ 7 ∧ (zand (Γ.2.2.2.2.2.2 (a3).toNat).toInt 31) ≠ 8 ∧ (zand (Γ.2.2.2.2.2.2 (a3).toNat).toInt 31) ≠ 9 ∧ (zand (Γ.2.2.2.2.2.2 (a3).toNat).toInt 31) ≠ 10 ∧ (zand (Γ.2.2.2.2.2.2 (a3).toNat).toInt 31) ≠ 11 ∧ (zand (Γ.2.2.2.2.2.2 (a3).toNat).toInt 31) ≠ 12 ∧ (zand (Γ.2.2.2.2.2.2 (a3).toNat).toInt 31) ≠ 13 ∧ (zand (Γ.2.2.2.2.2.2 (a3).toNat).toInt 31) ≠ 14 ∧ (zand (Γ.2.2.2.2.2.2 (a3).toNat).toInt 31) ≠ 15 ∧ (zand (Γ.2.2.2.2.2.2 (a3).toNat).toInt 31) ≠ 16 ∧ (zand (Γ.2.2.2.2.2.2 (a3).toNat).toInt 31) ≠ 17 ∧ (zand (Γ.2.2.2.2.2.2 (a3).toNat).toInt 31) ≠ 18 ∧ (zand (Γ.2.2.2.2.2.2 (a3).toNat).toInt 31) ≠ 19 ∧ (zand (Γ.2.2.2.2.2.2 (a3).toNat).toInt 31) ≠ 20 ∧ (zand (Γ.2.2.2.2.2.2 (a3).toNat).toInt 31) ≠ 21 ∧ (zand (Γ.2.2.2.2.2.2 (a3).toNat).toInt 31) ≠ 22 ∧ (zand (Γ.2.2.2.2.2.2 (a3).toNat).toInt 31) ≠ 23 ∧ (zand (Γ.2.2.2.2.2.2 (a3).toNat).toInt 31) ≠ 24 ∧ (zand (Γ.2.2.2.2.2.2 (a3).toNat).toInt 31) ≠ 25 ∧ (zand (Γ.2.2.2.2.2.2 (a3).toNat).toInt 31) ≠ 26) → G Γ m_L_law Ret kc ks 797 [some (vR 999), some (vR p1), some (vR p2), some (vI a3)] [] w) (h1 : (0 : Int) ≤ a3 ∧ a3 < (Γ.2.2.2.2.2.1 : Int) := by omega) (h2 : Γ.2.2.2.2.2.1 < 2147483648 := by omega) : G Γ m_L_law Ret kc ks 26 [some (vR 999), some (vR p1), some (vR p2), some (vI a3)] [] w := by
  refine G_aload_n dL_law_26 rfl ?_
  refine G_iload_n dL_law_27 rfl ?_
  refine G_sld rfl dL_law_28 h1 h2 ?_
  refine G_bipush dL_law_29 (by decide +kernel) ?_
  refine G_iand dL_law_31 ?_
  by_cases hq : (zand (Γ.2.2.2.2.2.2 (a3).toNat).toInt 31) < 0 ∨ 26 < (zand (Γ.2.2.2.2.2.2 (a3).toNat).toInt 31)
  · exact G_tableOut dL_law_32 (sm_of _) hq (by decide) (kd (by omega))
  by_cases hv0 : (zand (Γ.2.2.2.2.2.2 (a3).toNat).toInt 31) = 0
  · exact G_tableIn (off := 124) (tgt := 156) dL_law_32 (sm_of _) (by omega) (by omega) (by rw [hv0]; rfl) (by decide) (k156 (by omega))
  by_cases hv1 : (zand (Γ.2.2.2.2.2.2 (a3).toNat).toInt 31) = 1
  · exact G_tableIn (off := 147) (tgt := 179) dL_law_32 (sm_of _) (by omega) (by omega) (by rw [hv1]; rfl) (by decide) (k179 (by omega))
  by_cases hv2 : (zand (Γ.2.2.2.2.2.2 (a3).toNat).toInt 31) = 2
  · exact G_tableIn (off := 160) (tgt := 192) dL_law_32 (sm_of _) (by omega) (by omega) (by rw [hv2]; rfl) (by decide) (k192 (by omega))
  by_cases hv3 : (zand (Γ.2.2.2.2.2.2 (a3).toNat).toInt 31) = 3
  · exact G_tableIn (off := 173) (tgt := 205) dL_law_32 (sm_of _) (by omega) (by omega) (by rw [hv3]; rfl) (by decide) (k205 (by omega))
  by_cases hv4 : (zand (Γ.2.2.2.2.2.2 (a3).toNat).toInt 31) = 4
  · exact G_tableIn (off := 186) (tgt := 218) dL_law_32 (sm_of _) (by omega) (by omega) (by rw [hv4]; rfl) (by decide) (k218 (by omega))
  by_cases hv5 : (zand (Γ.2.2.2.2.2.2 (a3).toNat).toInt 31) = 5
  · exact G_tableIn (off := 219) (tgt := 251) dL_law_32 (sm_of _) (by omega) (by omega) (by rw [hv5]; rfl) (by decide) (k251 (by omega))
  by_cases hv6 : (zand (Γ.2.2.2.2.2.2 (a3).toNat).toInt 31) = 6
  · exact G_tableIn (off := 252) (tgt := 284) dL_law_32 (sm_of _) (by omega) (by omega) (by rw [hv6]; rfl) (by decide) (k284 (by omega))
  by_cases hv7 : (zand (Γ.2.2.2.2.2.2 (a3).toNat).toInt 31) = 7
  · exact G_tableIn (off := 275) (tgt := 307) dL_law_32 (sm_of _) (by omega) (by omega) (by rw [hv7]; rfl) (by decide) (k307 (by omega))
  by_cases hv8 : (zand (Γ.2.2.2.2.2.2 (a3).toNat).toInt 31) = 8
  · exact G_tableIn (off := 298) (tgt := 330) dL_law_32 (sm_of _) (by omega) (by omega) (by rw [hv8]; rfl) (by decide) (k330 (by omega))
  by_cases hv9 : (zand (Γ.2.2.2.2.2.2 (a3).toNat).toInt 31) = 9
  · exact G_tableIn (off := 331) (tgt := 363) dL_law_32 (sm_of _) (by omega) (by omega) (by rw [hv9]; rfl) (by decide) (k363 (by omega))
  by_cases hv10 : (zand (Γ.2.2.2.2.2.2 (a3).toNat).toInt 31) = 10
  · exact G_tableIn (off := 354) (tgt := 386) dL_law_32 (sm_of _) (by omega) (by omega) (by rw [hv10]; rfl) (by decide) (k386 (by omega))
  by_cases hv11 : (zand (Γ.2.2.2.2.2.2 (a3).toNat).toInt 31) = 11
  · exact G_tableIn (off := 377) (tgt := 409) dL_law_32 (sm_of _) (by omega) (by omega) (by rw [hv11]; rfl) (by decide) (k409 (by omega))
  by_cases hv12 : (zand (Γ.2.2.2.2.2.2 (a3).toNat).toInt 31) = 12
  · exact G_tableIn (off := 390) (tgt := 422) dL_law_32 (sm_of _) (by omega) (by omega) (by rw [hv12]; rfl) (by decide) (k422 (by omega))
  by_cases hv13 : (zand (Γ.2.2.2.2.2.2 (a3).toNat).toInt 31) = 13
  · exact G_tableIn (off := 413) (tgt := 445) dL_law_32 (sm_of _) (by omega) (by omega) (by rw [hv13]; rfl) (by decide) (k445 (by omega))
  by_cases hv14 : (zand (Γ.2.2.2.2.2.2 (a3).toNat).toInt 31) = 14
  · exact G_tableIn (off := 436) (tgt := 468) dL_law_32 (sm_of _) (by omega) (by omega) (by rw [hv14]; rfl) (by decide) (k468 (by omega))
  by_cases hv15 : (zand (Γ.2.2.2.2.2.2 (a3).toNat).toInt 31) = 15
  · exact G_tableIn (off := 469) (tgt := 501) dL_law_32 (sm_of _) (by omega) (by omega) (by rw [hv15]; rfl) (by decide) (k501 (by omega))
  by_cases hv16 : (zand (Γ.2.2.2.2.2.2 (a3).toNat).toInt 31) = 16
  · exact G_tableIn (off := 482) (tgt := 514) dL_law_32 (sm_of _) (by omega) (by omega) (by rw [hv16]; rfl) (by decide) (k514 (by omega))
  by_cases hv17 : (zand (Γ.2.2.2.2.2.2 (a3).toNat).toInt 31) = 17
  · exact G_tableIn (off := 495) (tgt := 527) dL_law_32 (sm_of _) (by omega) (by omega) (by rw [hv17]; rfl) (by decide) (k527 (by omega))
  by_cases hv18 : (zand (Γ.2.2.2.2.2.2 (a3).toNat).toInt 31) = 18
  · exact G_tableIn (off := 528) (tgt := 560) dL_law_32 (sm_of _) (by omega) (by omega) (by rw [hv18]; rfl) (by decide) (k560 (by omega))
  by_cases hv19 : (zand (Γ.2.2.2.2.2.2 (a3).toNat).toInt 31) = 19
  · exact G_tableIn (off := 541) (tgt := 573) dL_law_32 (sm_of _) (by omega) (by omega) (by rw [hv19]; rfl) (by decide) (k573 (by omega))
  by_cases hv20 : (zand (Γ.2.2.2.2.2.2 (a3).toNat).toInt 31) = 20
  · exact G_tableIn (off := 564) (tgt := 596) dL_law_32 (sm_of _) (by omega) (by omega) (by rw [hv20]; rfl) (by decide) (k596 (by omega))
  by_cases hv21 : (zand (Γ.2.2.2.2.2.2 (a3).toNat).toInt 31) = 21
  · exact G_tableIn (off := 597) (tgt := 629) dL_law_32 (sm_of _) (by omega) (by omega) (by rw [hv21]; rfl) (by decide) (k629 (by omega))
  by_cases hv22 : (zand (Γ.2.2.2.2.2.2 (a3).toNat).toInt 31) = 22
  · exact G_tableIn (off := 620) (tgt := 652) dL_law_32 (sm_of _) (by omega) (by omega) (by rw [hv22]; rfl) (by decide) (k652 (by omega))
  by_cases hv23 : (zand (Γ.2.2.2.2.2.2 (a3).toNat).toInt 31) = 23
  · exact G_tableIn (off := 673) (tgt := 705) dL_law_32 (sm_of _) (by omega) (by omega) (by rw [hv23]; rfl) (by decide) (k705 (by omega))
  by_cases hv24 : (zand (Γ.2.2.2.2.2.2 (a3).toNat).toInt 31) = 24
  · exact G_tableIn (off := 716) (tgt := 748) dL_law_32 (sm_of _) (by omega) (by omega) (by rw [hv24]; rfl) (by decide) (k748 (by omega))
  by_cases hv25 : (zand (Γ.2.2.2.2.2.2 (a3).toNat).toInt 31) = 25
  · exact G_tableIn (off := 729) (tgt := 761) dL_law_32 (sm_of _) (by omega) (by omega) (by rw [hv25]; rfl) (by decide) (k761 (by omega))
  by_cases hv26 : (zand (Γ.2.2.2.2.2.2 (a3).toNat).toInt 31) = 26
  · exact G_tableIn (off := 742) (tgt := 774) dL_law_32 (sm_of _) (by omega) (by omega) (by rw [hv26]; rfl) (by decide) (k774 (by omega))
  exact absurd hq (by omega)
theorem k_L_law_156 {Γ : Gm} {Ret : Option Value → Wd → Prop} {kc ks : Nat} {a3 : Int} {p1 p2 : Nat} {w : Wd} {Q : Int → Wd → Prop} (c5 : SpI Γ m_X6_write [vR p1, vI (Γ.2.2.2.2.2.2 ((a3 + 1)).toNat).toInt] w Q) (kq : ∀ (z : Int) (u : Wd), Q z u → G Γ m_L_law Ret kc ks 165 [some (vR 999), some (vR p1), some (vR p2), some (vI a3)] [vI z] u) (h1 : (0 : Int) ≤ (a3 + 1) ∧ (a3 + 1) < (Γ.2.2.2.2.2.1 : Int) := by omega) (h2 : Γ.2.2.2.2.2.1 < 2147483648 := by omega) (h3 : kc + m_X6_write.2.2.2.2.cells ≤ m_L_law.2.2.2.2.cells ∧ ks + m_X6_write.2.2.2.2.slots ≤ m_L_law.2.2.2.2.slots := by decide) (h4 : sh w p1 = some (.inr 6) := by assumption) : G Γ m_L_law Ret kc ks 156 [some (vR 999), some (vR p1), some (vR p2), some (vI a3)] [] w := by
  refine G_aload_n dL_law_156 rfl ?_
  refine G_aload_n dL_law_157 rfl ?_
  refine G_iload_n dL_law_158 rfl ?_
  refine G_const dL_law_159 ?_
  refine G_iadd dL_law_160 ?_
  refine G_sld rfl dL_law_161 h1 h2 ?_
  exact G_VI (as := [vI (Γ.2.2.2.2.2.2 ((a3 + 1)).toNat).toInt]) (st := []) n0_X6_write dL_law_162 ml_RL_13 mc_X6_write rfl ⟨by decide, h3, Nat.le_of_ble_eq_true rfl⟩ h4 ⟨_, _, rfl⟩ c5 (fun z u hq => kq z u hq)
theorem k_L_law_179 {Γ : Gm} {Ret : Option Value → Wd → Prop} {kc ks : Nat} {a3 : Int} {p1 p2 : Nat} {w : Wd} {Q : Int → Wd → Prop} (c3 : SpI Γ m_X6_wipe [vR p1] w Q) (kq : ∀ (z : Int) (u : Wd), Q z u → G Γ m_L_law Ret kc ks 183 [some (vR 999), some (vR p1), some (vR p2), some (vI a3)] [vI z] u) (h1 : kc + m_X6_wipe.2.2.2.2.cells ≤ m_L_law.2.2.2.2.cells ∧ ks + m_X6_wipe.2.2.2.2.slots ≤ m_L_law.2.2.2.2.slots := by decide) (h2 : sh w p1 = some (.inr 6) := by assumption) : G Γ m_L_law Ret kc ks 179 [some (vR 999), some (vR p1), some (vR p2), some (vI a3)] [] w := by
  refine G_aload_n dL_law_179 rfl ?_
  exact G_VI (as := []) (st := []) n0_X6_wipe dL_law_180 ml_RL_18 mc_X6_wipe rfl ⟨by decide, h1, Nat.le_of_ble_eq_true rfl⟩ h2 ⟨_, _, rfl⟩ c3 (fun z u hq => kq z u hq)
theorem k_L_law_192 {Γ : Gm} {Ret : Option Value → Wd → Prop} {kc ks : Nat} {a3 : Int} {p1 p2 : Nat} {w : Wd} {Q : Int → Wd → Prop} (c3 : SpI Γ m_X6_fault [vR p1] w Q) (kq : ∀ (z : Int) (u : Wd), Q z u → G Γ m_L_law Ret kc ks 196 [some (vR 999), some (vR p1), some (vR p2), some (vI a3)] [vI z] u) (h1 : kc + m_X6_fault.2.2.2.2.cells ≤ m_L_law.2.2.2.2.cells ∧ ks + m_X6_fault.2.2.2.2.slots ≤ m_L_law.2.2.2.2.slots := by decide) (h2 : sh w p1 = some (.inr 6) := by assumption) : G Γ m_L_law Ret kc ks 192 [some (vR 999), some (vR p1), some (vR p2), some (vI a3)] [] w := by
  refine G_aload_n dL_law_192 rfl ?_
  exact G_VI (as := []) (st := []) n0_X6_fault dL_law_193 ml_RL_23 mc_X6_fault rfl ⟨by decide, h1, Nat.le_of_ble_eq_true rfl⟩ h2 ⟨_, _, rfl⟩ c3 (fun z u hq => kq z u hq)
theorem k_L_law_205 {Γ : Gm} {Ret : Option Value → Wd → Prop} {kc ks : Nat} {a3 : Int} {p1 p2 : Nat} {w : Wd} {Q : Int → Wd → Prop} (c3 : SpI Γ m_X6_lay [vR p1] w Q) (kq : ∀ (z : Int) (u : Wd), Q z u → G Γ m_L_law Ret kc ks 209 [some (vR 999), some (vR p1), some (vR p2), some (vI a3)] [vI z] u) (h1 : kc + m_X6_lay.2.2.2.2.cells ≤ m_L_law.2.2.2.2.cells ∧ ks + m_X6_lay.2.2.2.2.slots ≤ m_L_law.2.2.2.2.slots := by decide) (h2 : sh w p1 = some (.inr 6) := by assumption) : G Γ m_L_law Ret kc ks 205 [some (vR 999), some (vR p1), some (vR p2), some (vI a3)] [] w := by
  refine G_aload_n dL_law_205 rfl ?_
  exact G_VI (as := []) (st := []) n0_X6_lay dL_law_206 ml_RL_27 mc_X6_lay rfl ⟨by decide, h1, Nat.le_of_ble_eq_true rfl⟩ h2 ⟨_, _, rfl⟩ c3 (fun z u hq => kq z u hq)
theorem k_L_law_218 {Γ : Gm} {Ret : Option Value → Wd → Prop} {kc ks : Nat} {a3 : Int} {p1 p2 : Nat} {w : Wd} {Q : Int → Wd → Prop} (c6 : SpI Γ m_X6_strip [vR p1, vI (Γ.2.2.2.2.2.2 ((a3 + 1)).toNat).toInt, vI (Γ.2.2.2.2.2.2 ((a3 + 2)).toNat).toInt] w Q) (kq : ∀ (z : Int) (u : Wd), Q z u → G Γ m_L_law Ret kc ks 232 [some (vR 999), some (vR p1), some (vR p2), some (vI a3)] [vI z] u) (h1 : (0 : Int) ≤ (a3 + 1) ∧ (a3 + 1) < (Γ.2.2.2.2.2.1 : Int) := by omega) (h2 : Γ.2.2.2.2.2.1 < 2147483648 := by omega) (h3 : (0 : Int) ≤ (a3 + 2) ∧ (a3 + 2) < (Γ.2.2.2.2.2.1 : Int) := by omega) (h4 : kc + m_X6_strip.2.2.2.2.cells ≤ m_L_law.2.2.2.2.cells ∧ ks + m_X6_strip.2.2.2.2.slots ≤ m_L_law.2.2.2.2.slots := by decide) (h5 : sh w p1 = some (.inr 6) := by assumption) : G Γ m_L_law Ret kc ks 218 [some (vR 999), some (vR p1), some (vR p2), some (vI a3)] [] w := by
  refine G_aload_n dL_law_218 rfl ?_
  refine G_aload_n dL_law_219 rfl ?_
  refine G_iload_n dL_law_220 rfl ?_
  refine G_const dL_law_221 ?_
  refine G_iadd dL_law_222 ?_
  refine G_sld rfl dL_law_223 h1 h2 ?_
  refine G_aload_n dL_law_224 rfl ?_
  refine G_iload_n dL_law_225 rfl ?_
  refine G_const dL_law_226 ?_
  refine G_iadd dL_law_227 ?_
  refine G_sld rfl dL_law_228 h3 h2 ?_
  exact G_VI (as := [vI (Γ.2.2.2.2.2.2 ((a3 + 1)).toNat).toInt, vI (Γ.2.2.2.2.2.2 ((a3 + 2)).toNat).toInt]) (st := []) n0_X6_strip dL_law_229 ml_RL_31 mc_X6_strip rfl ⟨by decide, h4, Nat.le_of_ble_eq_true rfl⟩ h5 ⟨_, _, rfl⟩ c6 (fun z u hq => kq z u hq)
theorem k_L_law_251 {Γ : Gm} {Ret : Option Value → Wd → Prop} {kc ks : Nat} {a3 : Int} {p1 p2 : Nat} {w : Wd} {Q : Int → Wd → Prop} (c6 : SpI Γ m_X6_wall [vR p1, vI (Γ.2.2.2.2.2.2 ((a3 + 1)).toNat).toInt, vI (Γ.2.2.2.2.2.2 ((a3 + 2)).toNat).toInt] w Q) (kq : ∀ (z : Int) (u : Wd), Q z u → G Γ m_L_law Ret kc ks 265 [some (vR 999), some (vR p1), some (vR p2), some (vI a3)] [vI z] u) (h1 : (0 : Int) ≤ (a3 + 1) ∧ (a3 + 1) < (Γ.2.2.2.2.2.1 : Int) := by omega) (h2 : Γ.2.2.2.2.2.1 < 2147483648 := by omega) (h3 : (0 : Int) ≤ (a3 + 2) ∧ (a3 + 2) < (Γ.2.2.2.2.2.1 : Int) := by omega) (h4 : kc + m_X6_wall.2.2.2.2.cells ≤ m_L_law.2.2.2.2.cells ∧ ks + m_X6_wall.2.2.2.2.slots ≤ m_L_law.2.2.2.2.slots := by decide) (h5 : sh w p1 = some (.inr 6) := by assumption) : G Γ m_L_law Ret kc ks 251 [some (vR 999), some (vR p1), some (vR p2), some (vI a3)] [] w := by
  refine G_aload_n dL_law_251 rfl ?_
  refine G_aload_n dL_law_252 rfl ?_
  refine G_iload_n dL_law_253 rfl ?_
  refine G_const dL_law_254 ?_
  refine G_iadd dL_law_255 ?_
  refine G_sld rfl dL_law_256 h1 h2 ?_
  refine G_aload_n dL_law_257 rfl ?_
  refine G_iload_n dL_law_258 rfl ?_
  refine G_const dL_law_259 ?_
  refine G_iadd dL_law_260 ?_
  refine G_sld rfl dL_law_261 h3 h2 ?_
  exact G_VI (as := [vI (Γ.2.2.2.2.2.2 ((a3 + 1)).toNat).toInt, vI (Γ.2.2.2.2.2.2 ((a3 + 2)).toNat).toInt]) (st := []) n0_X6_wall dL_law_262 ml_RL_36 mc_X6_wall rfl ⟨by decide, h4, Nat.le_of_ble_eq_true rfl⟩ h5 ⟨_, _, rfl⟩ c6 (fun z u hq => kq z u hq)
theorem k_L_law_284 {Γ : Gm} {Ret : Option Value → Wd → Prop} {kc ks : Nat} {a3 : Int} {p1 p2 : Nat} {w : Wd} {Q : Int → Wd → Prop} (c5 : SpI Γ m_X6_damp [vR p1, vI (Γ.2.2.2.2.2.2 ((a3 + 1)).toNat).toInt] w Q) (kq : ∀ (z : Int) (u : Wd), Q z u → G Γ m_L_law Ret kc ks 293 [some (vR 999), some (vR p1), some (vR p2), some (vI a3)] [vI z] u) (h1 : (0 : Int) ≤ (a3 + 1) ∧ (a3 + 1) < (Γ.2.2.2.2.2.1 : Int) := by omega) (h2 : Γ.2.2.2.2.2.1 < 2147483648 := by omega) (h3 : kc + m_X6_damp.2.2.2.2.cells ≤ m_L_law.2.2.2.2.cells ∧ ks + m_X6_damp.2.2.2.2.slots ≤ m_L_law.2.2.2.2.slots := by decide) (h4 : sh w p1 = some (.inr 6) := by assumption) : G Γ m_L_law Ret kc ks 284 [some (vR 999), some (vR p1), some (vR p2), some (vI a3)] [] w := by
  refine G_aload_n dL_law_284 rfl ?_
  refine G_aload_n dL_law_285 rfl ?_
  refine G_iload_n dL_law_286 rfl ?_
  refine G_const dL_law_287 ?_
  refine G_iadd dL_law_288 ?_
  refine G_sld rfl dL_law_289 h1 h2 ?_
  exact G_VI (as := [vI (Γ.2.2.2.2.2.2 ((a3 + 1)).toNat).toInt]) (st := []) n0_X6_damp dL_law_290 ml_RL_40 mc_X6_damp rfl ⟨by decide, h3, Nat.le_of_ble_eq_true rfl⟩ h4 ⟨_, _, rfl⟩ c5 (fun z u hq => kq z u hq)
theorem k_L_law_307 {Γ : Gm} {Ret : Option Value → Wd → Prop} {kc ks : Nat} {a3 : Int} {p1 p2 : Nat} {w : Wd} {Q : Int → Wd → Prop} (c5 : SpI Γ m_X6_cut [vR p1, vI (Γ.2.2.2.2.2.2 ((a3 + 1)).toNat).toInt] w Q) (kq : ∀ (z : Int) (u : Wd), Q z u → G Γ m_L_law Ret kc ks 316 [some (vR 999), some (vR p1), some (vR p2), some (vI a3)] [vI z] u) (h1 : (0 : Int) ≤ (a3 + 1) ∧ (a3 + 1) < (Γ.2.2.2.2.2.1 : Int) := by omega) (h2 : Γ.2.2.2.2.2.1 < 2147483648 := by omega) (h3 : kc + m_X6_cut.2.2.2.2.cells ≤ m_L_law.2.2.2.2.cells ∧ ks + m_X6_cut.2.2.2.2.slots ≤ m_L_law.2.2.2.2.slots := by decide) (h4 : sh w p1 = some (.inr 6) := by assumption) : G Γ m_L_law Ret kc ks 307 [some (vR 999), some (vR p1), some (vR p2), some (vI a3)] [] w := by
  refine G_aload_n dL_law_307 rfl ?_
  refine G_aload_n dL_law_308 rfl ?_
  refine G_iload_n dL_law_309 rfl ?_
  refine G_const dL_law_310 ?_
  refine G_iadd dL_law_311 ?_
  refine G_sld rfl dL_law_312 h1 h2 ?_
  exact G_VI (as := [vI (Γ.2.2.2.2.2.2 ((a3 + 1)).toNat).toInt]) (st := []) n0_X6_cut dL_law_313 ml_RL_44 mc_X6_cut rfl ⟨by decide, h3, Nat.le_of_ble_eq_true rfl⟩ h4 ⟨_, _, rfl⟩ c5 (fun z u hq => kq z u hq)
theorem k_L_law_330 {Γ : Gm} {Ret : Option Value → Wd → Prop} {kc ks : Nat} {a3 : Int} {p1 p2 : Nat} {w : Wd} {Q : Int → Wd → Prop} (c6 : SpI Γ m_X6_hook [vR p1, vI (Γ.2.2.2.2.2.2 ((a3 + 1)).toNat).toInt, vI (Γ.2.2.2.2.2.2 ((a3 + 2)).toNat).toInt] w Q) (kq : ∀ (z : Int) (u : Wd), Q z u → G Γ m_L_law Ret kc ks 344 [some (vR 999), some (vR p1), some (vR p2), some (vI a3)] [vI z] u) (h1 : (0 : Int) ≤ (a3 + 1) ∧ (a3 + 1) < (Γ.2.2.2.2.2.1 : Int) := by omega) (h2 : Γ.2.2.2.2.2.1 < 2147483648 := by omega) (h3 : (0 : Int) ≤ (a3 + 2) ∧ (a3 + 2) < (Γ.2.2.2.2.2.1 : Int) := by omega) (h4 : kc + m_X6_hook.2.2.2.2.cells ≤ m_L_law.2.2.2.2.cells ∧ ks + m_X6_hook.2.2.2.2.slots ≤ m_L_law.2.2.2.2.slots := by decide) (h5 : sh w p1 = some (.inr 6) := by assumption) : G Γ m_L_law Ret kc ks 330 [some (vR 999), some (vR p1), some (vR p2), some (vI a3)] [] w := by
  refine G_aload_n dL_law_330 rfl ?_
  refine G_aload_n dL_law_331 rfl ?_
  refine G_iload_n dL_law_332 rfl ?_
  refine G_const dL_law_333 ?_
  refine G_iadd dL_law_334 ?_
  refine G_sld rfl dL_law_335 h1 h2 ?_
  refine G_aload_n dL_law_336 rfl ?_
  refine G_iload_n dL_law_337 rfl ?_
  refine G_const dL_law_338 ?_
  refine G_iadd dL_law_339 ?_
  refine G_sld rfl dL_law_340 h3 h2 ?_
  exact G_VI (as := [vI (Γ.2.2.2.2.2.2 ((a3 + 1)).toNat).toInt, vI (Γ.2.2.2.2.2.2 ((a3 + 2)).toNat).toInt]) (st := []) n0_X6_hook dL_law_341 ml_RL_48 mc_X6_hook rfl ⟨by decide, h4, Nat.le_of_ble_eq_true rfl⟩ h5 ⟨_, _, rfl⟩ c6 (fun z u hq => kq z u hq)
theorem k_L_law_363 {Γ : Gm} {Ret : Option Value → Wd → Prop} {kc ks : Nat} {a3 : Int} {p1 p2 : Nat} {w : Wd} {Q : Int → Wd → Prop} (c5 : SpI Γ m_X6_letGo [vR p1, vI (Γ.2.2.2.2.2.2 ((a3 + 1)).toNat).toInt] w Q) (kq : ∀ (z : Int) (u : Wd), Q z u → G Γ m_L_law Ret kc ks 372 [some (vR 999), some (vR p1), some (vR p2), some (vI a3)] [vI z] u) (h1 : (0 : Int) ≤ (a3 + 1) ∧ (a3 + 1) < (Γ.2.2.2.2.2.1 : Int) := by omega) (h2 : Γ.2.2.2.2.2.1 < 2147483648 := by omega) (h3 : kc + m_X6_letGo.2.2.2.2.cells ≤ m_L_law.2.2.2.2.cells ∧ ks + m_X6_letGo.2.2.2.2.slots ≤ m_L_law.2.2.2.2.slots := by decide) (h4 : sh w p1 = some (.inr 6) := by assumption) : G Γ m_L_law Ret kc ks 363 [some (vR 999), some (vR p1), some (vR p2), some (vI a3)] [] w := by
  refine G_aload_n dL_law_363 rfl ?_
  refine G_aload_n dL_law_364 rfl ?_
  refine G_iload_n dL_law_365 rfl ?_
  refine G_const dL_law_366 ?_
  refine G_iadd dL_law_367 ?_
  refine G_sld rfl dL_law_368 h1 h2 ?_
  exact G_VI (as := [vI (Γ.2.2.2.2.2.2 ((a3 + 1)).toNat).toInt]) (st := []) n0_X6_letGo dL_law_369 ml_RL_52 mc_X6_letGo rfl ⟨by decide, h3, Nat.le_of_ble_eq_true rfl⟩ h4 ⟨_, _, rfl⟩ c5 (fun z u hq => kq z u hq)
theorem k_L_law_386 {Γ : Gm} {Ret : Option Value → Wd → Prop} {kc ks : Nat} {a3 : Int} {p1 p2 : Nat} {w : Wd} {Q : Int → Wd → Prop} (c5 : SpI Γ m_X6_pass [vR p1, vI (Γ.2.2.2.2.2.2 ((a3 + 1)).toNat).toInt] w Q) (kq : ∀ (z : Int) (u : Wd), Q z u → G Γ m_L_law Ret kc ks 395 [some (vR 999), some (vR p1), some (vR p2), some (vI a3)] [vI z] u) (h1 : (0 : Int) ≤ (a3 + 1) ∧ (a3 + 1) < (Γ.2.2.2.2.2.1 : Int) := by omega) (h2 : Γ.2.2.2.2.2.1 < 2147483648 := by omega) (h3 : kc + m_X6_pass.2.2.2.2.cells ≤ m_L_law.2.2.2.2.cells ∧ ks + m_X6_pass.2.2.2.2.slots ≤ m_L_law.2.2.2.2.slots := by decide) (h4 : sh w p1 = some (.inr 6) := by assumption) : G Γ m_L_law Ret kc ks 386 [some (vR 999), some (vR p1), some (vR p2), some (vI a3)] [] w := by
  refine G_aload_n dL_law_386 rfl ?_
  refine G_aload_n dL_law_387 rfl ?_
  refine G_iload_n dL_law_388 rfl ?_
  refine G_const dL_law_389 ?_
  refine G_iadd dL_law_390 ?_
  refine G_sld rfl dL_law_391 h1 h2 ?_
  exact G_VI (as := [vI (Γ.2.2.2.2.2.2 ((a3 + 1)).toNat).toInt]) (st := []) n0_X6_pass dL_law_392 ml_RL_56 mc_X6_pass rfl ⟨by decide, h3, Nat.le_of_ble_eq_true rfl⟩ h4 ⟨_, _, rfl⟩ c5 (fun z u hq => kq z u hq)
theorem k_L_law_409 {Γ : Gm} {Ret : Option Value → Wd → Prop} {kc ks : Nat} {a3 : Int} {p1 p2 : Nat} {w : Wd} {Q : Int → Wd → Prop} (c3 : SpI Γ m_X6_undo [vR p1] w Q) (kq : ∀ (z : Int) (u : Wd), Q z u → G Γ m_L_law Ret kc ks 413 [some (vR 999), some (vR p1), some (vR p2), some (vI a3)] [vI z] u) (h1 : kc + m_X6_undo.2.2.2.2.cells ≤ m_L_law.2.2.2.2.cells ∧ ks + m_X6_undo.2.2.2.2.slots ≤ m_L_law.2.2.2.2.slots := by decide) (h2 : sh w p1 = some (.inr 6) := by assumption) : G Γ m_L_law Ret kc ks 409 [some (vR 999), some (vR p1), some (vR p2), some (vI a3)] [] w := by
  refine G_aload_n dL_law_409 rfl ?_
  exact G_VI (as := []) (st := []) n0_X6_undo dL_law_410 ml_RL_60 mc_X6_undo rfl ⟨by decide, h1, Nat.le_of_ble_eq_true rfl⟩ h2 ⟨_, _, rfl⟩ c3 (fun z u hq => kq z u hq)
theorem k_L_law_422 {Γ : Gm} {Ret : Option Value → Wd → Prop} {kc ks : Nat} {a3 : Int} {p1 p2 : Nat} {w : Wd} {Q : Int → Wd → Prop} (c5 : SpI Γ m_X6_plan [vR p1, vI (Γ.2.2.2.2.2.2 ((a3 + 1)).toNat).toInt] w Q) (kq : ∀ (z : Int) (u : Wd), Q z u → G Γ m_L_law Ret kc ks 431 [some (vR 999), some (vR p1), some (vR p2), some (vI a3)] [vI z] u) (h1 : (0 : Int) ≤ (a3 + 1) ∧ (a3 + 1) < (Γ.2.2.2.2.2.1 : Int) := by omega) (h2 : Γ.2.2.2.2.2.1 < 2147483648 := by omega) (h3 : kc + m_X6_plan.2.2.2.2.cells ≤ m_L_law.2.2.2.2.cells ∧ ks + m_X6_plan.2.2.2.2.slots ≤ m_L_law.2.2.2.2.slots := by decide) (h4 : sh w p1 = some (.inr 6) := by assumption) : G Γ m_L_law Ret kc ks 422 [some (vR 999), some (vR p1), some (vR p2), some (vI a3)] [] w := by
  refine G_aload_n dL_law_422 rfl ?_
  refine G_aload_n dL_law_423 rfl ?_
  refine G_iload_n dL_law_424 rfl ?_
  refine G_const dL_law_425 ?_
  refine G_iadd dL_law_426 ?_
  refine G_sld rfl dL_law_427 h1 h2 ?_
  exact G_VI (as := [vI (Γ.2.2.2.2.2.2 ((a3 + 1)).toNat).toInt]) (st := []) n0_X6_plan dL_law_428 ml_RL_64 mc_X6_plan rfl ⟨by decide, h3, Nat.le_of_ble_eq_true rfl⟩ h4 ⟨_, _, rfl⟩ c5 (fun z u hq => kq z u hq)
theorem k_L_law_445 {Γ : Gm} {Ret : Option Value → Wd → Prop} {kc ks : Nat} {a3 : Int} {p1 p2 : Nat} {w : Wd} {Q : Int → Wd → Prop} (c5 : SpI Γ m_X6_order [vR p1, vI (Γ.2.2.2.2.2.2 ((a3 + 1)).toNat).toInt] w Q) (kq : ∀ (z : Int) (u : Wd), Q z u → G Γ m_L_law Ret kc ks 454 [some (vR 999), some (vR p1), some (vR p2), some (vI a3)] [vI z] u) (h1 : (0 : Int) ≤ (a3 + 1) ∧ (a3 + 1) < (Γ.2.2.2.2.2.1 : Int) := by omega) (h2 : Γ.2.2.2.2.2.1 < 2147483648 := by omega) (h3 : kc + m_X6_order.2.2.2.2.cells ≤ m_L_law.2.2.2.2.cells ∧ ks + m_X6_order.2.2.2.2.slots ≤ m_L_law.2.2.2.2.slots := by decide) (h4 : sh w p1 = some (.inr 6) := by assumption) : G Γ m_L_law Ret kc ks 445 [some (vR 999), some (vR p1), some (vR p2), some (vI a3)] [] w := by
  refine G_aload_n dL_law_445 rfl ?_
  refine G_aload_n dL_law_446 rfl ?_
  refine G_iload_n dL_law_447 rfl ?_
  refine G_const dL_law_448 ?_
  refine G_iadd dL_law_449 ?_
  refine G_sld rfl dL_law_450 h1 h2 ?_
  exact G_VI (as := [vI (Γ.2.2.2.2.2.2 ((a3 + 1)).toNat).toInt]) (st := []) n0_X6_order dL_law_451 ml_RL_68 mc_X6_order rfl ⟨by decide, h3, Nat.le_of_ble_eq_true rfl⟩ h4 ⟨_, _, rfl⟩ c5 (fun z u hq => kq z u hq)
theorem k_L_law_468 {Γ : Gm} {Ret : Option Value → Wd → Prop} {kc ks : Nat} {a3 : Int} {p1 p2 : Nat} {w : Wd} {Q : Int → Wd → Prop} (c6 : SpI Γ m_X6_kickFor [vR p1, vI (Γ.2.2.2.2.2.2 ((a3 + 1)).toNat).toInt, vI (Γ.2.2.2.2.2.2 ((a3 + 2)).toNat).toInt] w Q) (kq : ∀ (z : Int) (u : Wd), Q z u → G Γ m_L_law Ret kc ks 482 [some (vR 999), some (vR p1), some (vR p2), some (vI a3)] [vI z] u) (h1 : (0 : Int) ≤ (a3 + 1) ∧ (a3 + 1) < (Γ.2.2.2.2.2.1 : Int) := by omega) (h2 : Γ.2.2.2.2.2.1 < 2147483648 := by omega) (h3 : (0 : Int) ≤ (a3 + 2) ∧ (a3 + 2) < (Γ.2.2.2.2.2.1 : Int) := by omega) (h4 : kc + m_X6_kickFor.2.2.2.2.cells ≤ m_L_law.2.2.2.2.cells ∧ ks + m_X6_kickFor.2.2.2.2.slots ≤ m_L_law.2.2.2.2.slots := by decide) (h5 : sh w p1 = some (.inr 6) := by assumption) : G Γ m_L_law Ret kc ks 468 [some (vR 999), some (vR p1), some (vR p2), some (vI a3)] [] w := by
  refine G_aload_n dL_law_468 rfl ?_
  refine G_aload_n dL_law_469 rfl ?_
  refine G_iload_n dL_law_470 rfl ?_
  refine G_const dL_law_471 ?_
  refine G_iadd dL_law_472 ?_
  refine G_sld rfl dL_law_473 h1 h2 ?_
  refine G_aload_n dL_law_474 rfl ?_
  refine G_iload_n dL_law_475 rfl ?_
  refine G_const dL_law_476 ?_
  refine G_iadd dL_law_477 ?_
  refine G_sld rfl dL_law_478 h3 h2 ?_
  exact G_VI (as := [vI (Γ.2.2.2.2.2.2 ((a3 + 1)).toNat).toInt, vI (Γ.2.2.2.2.2.2 ((a3 + 2)).toNat).toInt]) (st := []) n0_X6_kickFor dL_law_479 ml_RL_72 mc_X6_kickFor rfl ⟨by decide, h4, Nat.le_of_ble_eq_true rfl⟩ h5 ⟨_, _, rfl⟩ c6 (fun z u hq => kq z u hq)
theorem k_L_law_501 {Γ : Gm} {Ret : Option Value → Wd → Prop} {kc ks : Nat} {a3 : Int} {p1 p2 : Nat} {w : Wd} {Q : Int → Wd → Prop} (c3 : SpI Γ m_X6_waves [vR p1] w Q) (kq : ∀ (z : Int) (u : Wd), Q z u → G Γ m_L_law Ret kc ks 505 [some (vR 999), some (vR p1), some (vR p2), some (vI a3)] [vI z] u) (h1 : kc + m_X6_waves.2.2.2.2.cells ≤ m_L_law.2.2.2.2.cells ∧ ks + m_X6_waves.2.2.2.2.slots ≤ m_L_law.2.2.2.2.slots := by decide) (h2 : sh w p1 = some (.inr 6) := by assumption) : G Γ m_L_law Ret kc ks 501 [some (vR 999), some (vR p1), some (vR p2), some (vI a3)] [] w := by
  refine G_aload_n dL_law_501 rfl ?_
  exact G_VI (as := []) (st := []) n0_X6_waves dL_law_502 ml_RL_76 mc_X6_waves rfl ⟨by decide, h1, Nat.le_of_ble_eq_true rfl⟩ h2 ⟨_, _, rfl⟩ c3 (fun z u hq => kq z u hq)
theorem k_L_law_514 {Γ : Gm} {Ret : Option Value → Wd → Prop} {kc ks : Nat} {a3 : Int} {p1 p2 : Nat} {w : Wd} {Q : Int → Wd → Prop} (c3 : SpI Γ m_X6_longest [vR p1] w Q) (kq : ∀ (z : Int) (u : Wd), Q z u → G Γ m_L_law Ret kc ks 518 [some (vR 999), some (vR p1), some (vR p2), some (vI a3)] [vI z] u) (h1 : kc + m_X6_longest.2.2.2.2.cells ≤ m_L_law.2.2.2.2.cells ∧ ks + m_X6_longest.2.2.2.2.slots ≤ m_L_law.2.2.2.2.slots := by decide) (h2 : sh w p1 = some (.inr 6) := by assumption) : G Γ m_L_law Ret kc ks 514 [some (vR 999), some (vR p1), some (vR p2), some (vI a3)] [] w := by
  refine G_aload_n dL_law_514 rfl ?_
  exact G_VI (as := []) (st := []) n0_X6_longest dL_law_515 ml_RL_80 mc_X6_longest rfl ⟨by decide, h1, Nat.le_of_ble_eq_true rfl⟩ h2 ⟨_, _, rfl⟩ c3 (fun z u hq => kq z u hq)
theorem k_L_law_527 {Γ : Gm} {Ret : Option Value → Wd → Prop} {kc ks : Nat} {a3 : Int} {p1 p2 : Nat} {w : Wd} {Q : Int → Wd → Prop} (c6 : SpI Γ m_X6_seen [vR p1, vI (Γ.2.2.2.2.2.2 ((a3 + 1)).toNat).toInt, vI (Γ.2.2.2.2.2.2 ((a3 + 2)).toNat).toInt] w Q) (kq : ∀ (z : Int) (u : Wd), Q z u → G Γ m_L_law Ret kc ks 541 [some (vR 999), some (vR p1), some (vR p2), some (vI a3)] [vI z] u) (h1 : (0 : Int) ≤ (a3 + 1) ∧ (a3 + 1) < (Γ.2.2.2.2.2.1 : Int) := by omega) (h2 : Γ.2.2.2.2.2.1 < 2147483648 := by omega) (h3 : (0 : Int) ≤ (a3 + 2) ∧ (a3 + 2) < (Γ.2.2.2.2.2.1 : Int) := by omega) (h4 : kc + m_X6_seen.2.2.2.2.cells ≤ m_L_law.2.2.2.2.cells ∧ ks + m_X6_seen.2.2.2.2.slots ≤ m_L_law.2.2.2.2.slots := by decide) (h5 : sh w p1 = some (.inr 6) := by assumption) : G Γ m_L_law Ret kc ks 527 [some (vR 999), some (vR p1), some (vR p2), some (vI a3)] [] w := by
  refine G_aload_n dL_law_527 rfl ?_
  refine G_aload_n dL_law_528 rfl ?_
  refine G_iload_n dL_law_529 rfl ?_
  refine G_const dL_law_530 ?_
  refine G_iadd dL_law_531 ?_
  refine G_sld rfl dL_law_532 h1 h2 ?_
  refine G_aload_n dL_law_533 rfl ?_
  refine G_iload_n dL_law_534 rfl ?_
  refine G_const dL_law_535 ?_
  refine G_iadd dL_law_536 ?_
  refine G_sld rfl dL_law_537 h3 h2 ?_
  exact G_VI (as := [vI (Γ.2.2.2.2.2.2 ((a3 + 1)).toNat).toInt, vI (Γ.2.2.2.2.2.2 ((a3 + 2)).toNat).toInt]) (st := []) n0_X6_seen dL_law_538 ml_RL_84 mc_X6_seen rfl ⟨by decide, h4, Nat.le_of_ble_eq_true rfl⟩ h5 ⟨_, _, rfl⟩ c6 (fun z u hq => kq z u hq)
theorem k_L_law_560 {Γ : Gm} {Ret : Option Value → Wd → Prop} {kc ks : Nat} {a3 : Int} {p1 p2 : Nat} {w : Wd} {Q : Int → Wd → Prop} (c3 : SpI Γ m_X6_forget [vR p1] w Q) (kq : ∀ (z : Int) (u : Wd), Q z u → G Γ m_L_law Ret kc ks 564 [some (vR 999), some (vR p1), some (vR p2), some (vI a3)] [vI z] u) (h1 : kc + m_X6_forget.2.2.2.2.cells ≤ m_L_law.2.2.2.2.cells ∧ ks + m_X6_forget.2.2.2.2.slots ≤ m_L_law.2.2.2.2.slots := by decide) (h2 : sh w p1 = some (.inr 6) := by assumption) : G Γ m_L_law Ret kc ks 560 [some (vR 999), some (vR p1), some (vR p2), some (vI a3)] [] w := by
  refine G_aload_n dL_law_560 rfl ?_
  exact G_VI (as := []) (st := []) n0_X6_forget dL_law_561 ml_RL_88 mc_X6_forget rfl ⟨by decide, h1, Nat.le_of_ble_eq_true rfl⟩ h2 ⟨_, _, rfl⟩ c3 (fun z u hq => kq z u hq)
theorem k_L_law_573 {Γ : Gm} {Ret : Option Value → Wd → Prop} {kc ks : Nat} {a3 : Int} {p1 p2 : Nat} {w : Wd} {Q : Int → Wd → Prop} (c5 : SpI Γ m_X6_may [vR p1, vI (Γ.2.2.2.2.2.2 ((a3 + 1)).toNat).toInt] w Q) (kq : ∀ (z : Int) (u : Wd), Q z u → G Γ m_L_law Ret kc ks 582 [some (vR 999), some (vR p1), some (vR p2), some (vI a3)] [vI z] u) (h1 : (0 : Int) ≤ (a3 + 1) ∧ (a3 + 1) < (Γ.2.2.2.2.2.1 : Int) := by omega) (h2 : Γ.2.2.2.2.2.1 < 2147483648 := by omega) (h3 : kc + m_X6_may.2.2.2.2.cells ≤ m_L_law.2.2.2.2.cells ∧ ks + m_X6_may.2.2.2.2.slots ≤ m_L_law.2.2.2.2.slots := by decide) (h4 : sh w p1 = some (.inr 6) := by assumption) : G Γ m_L_law Ret kc ks 573 [some (vR 999), some (vR p1), some (vR p2), some (vI a3)] [] w := by
  refine G_aload_n dL_law_573 rfl ?_
  refine G_aload_n dL_law_574 rfl ?_
  refine G_iload_n dL_law_575 rfl ?_
  refine G_const dL_law_576 ?_
  refine G_iadd dL_law_577 ?_
  refine G_sld rfl dL_law_578 h1 h2 ?_
  exact G_VI (as := [vI (Γ.2.2.2.2.2.2 ((a3 + 1)).toNat).toInt]) (st := []) n0_X6_may dL_law_579 ml_RL_92 mc_X6_may rfl ⟨by decide, h3, Nat.le_of_ble_eq_true rfl⟩ h4 ⟨_, _, rfl⟩ c5 (fun z u hq => kq z u hq)
theorem k_L_law_596 {Γ : Gm} {Ret : Option Value → Wd → Prop} {kc ks : Nat} {a3 : Int} {p1 p2 : Nat} {w : Wd} {Q : Int → Wd → Prop} (c6 : SpI Γ m_X6_hall [vR p1, vI (Γ.2.2.2.2.2.2 ((a3 + 1)).toNat).toInt, vI (Γ.2.2.2.2.2.2 ((a3 + 2)).toNat).toInt] w Q) (kq : ∀ (z : Int) (u : Wd), Q z u → G Γ m_L_law Ret kc ks 610 [some (vR 999), some (vR p1), some (vR p2), some (vI a3)] [vI z] u) (h1 : (0 : Int) ≤ (a3 + 1) ∧ (a3 + 1) < (Γ.2.2.2.2.2.1 : Int) := by omega) (h2 : Γ.2.2.2.2.2.1 < 2147483648 := by omega) (h3 : (0 : Int) ≤ (a3 + 2) ∧ (a3 + 2) < (Γ.2.2.2.2.2.1 : Int) := by omega) (h4 : kc + m_X6_hall.2.2.2.2.cells ≤ m_L_law.2.2.2.2.cells ∧ ks + m_X6_hall.2.2.2.2.slots ≤ m_L_law.2.2.2.2.slots := by decide) (h5 : sh w p1 = some (.inr 6) := by assumption) : G Γ m_L_law Ret kc ks 596 [some (vR 999), some (vR p1), some (vR p2), some (vI a3)] [] w := by
  refine G_aload_n dL_law_596 rfl ?_
  refine G_aload_n dL_law_597 rfl ?_
  refine G_iload_n dL_law_598 rfl ?_
  refine G_const dL_law_599 ?_
  refine G_iadd dL_law_600 ?_
  refine G_sld rfl dL_law_601 h1 h2 ?_
  refine G_aload_n dL_law_602 rfl ?_
  refine G_iload_n dL_law_603 rfl ?_
  refine G_const dL_law_604 ?_
  refine G_iadd dL_law_605 ?_
  refine G_sld rfl dL_law_606 h3 h2 ?_
  exact G_VI (as := [vI (Γ.2.2.2.2.2.2 ((a3 + 1)).toNat).toInt, vI (Γ.2.2.2.2.2.2 ((a3 + 2)).toNat).toInt]) (st := []) n0_X6_hall dL_law_607 ml_RL_96 mc_X6_hall rfl ⟨by decide, h4, Nat.le_of_ble_eq_true rfl⟩ h5 ⟨_, _, rfl⟩ c6 (fun z u hq => kq z u hq)
theorem k_L_law_629 {Γ : Gm} {Ret : Option Value → Wd → Prop} {kc ks : Nat} {a3 : Int} {p1 p2 : Nat} {w : Wd} {Q : Int → Wd → Prop} (c5 : SpI Γ m_X6_left [vR p1, vI (Γ.2.2.2.2.2.2 ((a3 + 1)).toNat).toInt] w Q) (kq : ∀ (z : Int) (u : Wd), Q z u → G Γ m_L_law Ret kc ks 638 [some (vR 999), some (vR p1), some (vR p2), some (vI a3)] [vI z] u) (h1 : (0 : Int) ≤ (a3 + 1) ∧ (a3 + 1) < (Γ.2.2.2.2.2.1 : Int) := by omega) (h2 : Γ.2.2.2.2.2.1 < 2147483648 := by omega) (h3 : kc + m_X6_left.2.2.2.2.cells ≤ m_L_law.2.2.2.2.cells ∧ ks + m_X6_left.2.2.2.2.slots ≤ m_L_law.2.2.2.2.slots := by decide) (h4 : sh w p1 = some (.inr 6) := by assumption) : G Γ m_L_law Ret kc ks 629 [some (vR 999), some (vR p1), some (vR p2), some (vI a3)] [] w := by
  refine G_aload_n dL_law_629 rfl ?_
  refine G_aload_n dL_law_630 rfl ?_
  refine G_iload_n dL_law_631 rfl ?_
  refine G_const dL_law_632 ?_
  refine G_iadd dL_law_633 ?_
  refine G_sld rfl dL_law_634 h1 h2 ?_
  exact G_VI (as := [vI (Γ.2.2.2.2.2.2 ((a3 + 1)).toNat).toInt]) (st := []) n0_X6_left dL_law_635 ml_RL_100 mc_X6_left rfl ⟨by decide, h3, Nat.le_of_ble_eq_true rfl⟩ h4 ⟨_, _, rfl⟩ c5 (fun z u hq => kq z u hq)
theorem k_L_law_652 {Γ : Gm} {Ret : Option Value → Wd → Prop} {kc ks : Nat} {a3 : Int} {p1 p2 : Nat} {w : Wd} {Q : Int → Wd → Prop} (c8 : SpI Γ m_X6_likely [vR p1, vI (Γ.2.2.2.2.2.2 ((a3 + 1)).toNat).toInt, vI (Γ.2.2.2.2.2.2 ((a3 + 2)).toNat).toInt, vI (Γ.2.2.2.2.2.2 ((a3 + 3)).toNat).toInt, vI (Γ.2.2.2.2.2.2 ((a3 + 4)).toNat).toInt] w Q) (kq : ∀ (z : Int) (u : Wd), Q z u → G Γ m_L_law Ret kc ks 676 [some (vR 999), some (vR p1), some (vR p2), some (vI a3)] [vI z] u) (h1 : (0 : Int) ≤ (a3 + 1) ∧ (a3 + 1) < (Γ.2.2.2.2.2.1 : Int) := by omega) (h2 : Γ.2.2.2.2.2.1 < 2147483648 := by omega) (h3 : (0 : Int) ≤ (a3 + 2) ∧ (a3 + 2) < (Γ.2.2.2.2.2.1 : Int) := by omega) (h4 : (0 : Int) ≤ (a3 + 3) ∧ (a3 + 3) < (Γ.2.2.2.2.2.1 : Int) := by omega) (h5 : (0 : Int) ≤ (a3 + 4) ∧ (a3 + 4) < (Γ.2.2.2.2.2.1 : Int) := by omega) (h6 : kc + m_X6_likely.2.2.2.2.cells ≤ m_L_law.2.2.2.2.cells ∧ ks + m_X6_likely.2.2.2.2.slots ≤ m_L_law.2.2.2.2.slots := by decide) (h7 : sh w p1 = some (.inr 6) := by assumption) : G Γ m_L_law Ret kc ks 652 [some (vR 999), some (vR p1), some (vR p2), some (vI a3)] [] w := by
  refine G_aload_n dL_law_652 rfl ?_
  refine G_aload_n dL_law_653 rfl ?_
  refine G_iload_n dL_law_654 rfl ?_
  refine G_const dL_law_655 ?_
  refine G_iadd dL_law_656 ?_
  refine G_sld rfl dL_law_657 h1 h2 ?_
  refine G_aload_n dL_law_658 rfl ?_
  refine G_iload_n dL_law_659 rfl ?_
  refine G_const dL_law_660 ?_
  refine G_iadd dL_law_661 ?_
  refine G_sld rfl dL_law_662 h3 h2 ?_
  refine G_aload_n dL_law_663 rfl ?_
  refine G_iload_n dL_law_664 rfl ?_
  refine G_const dL_law_665 ?_
  refine G_iadd dL_law_666 ?_
  refine G_sld rfl dL_law_667 h4 h2 ?_
  refine G_aload_n dL_law_668 rfl ?_
  refine G_iload_n dL_law_669 rfl ?_
  refine G_const dL_law_670 ?_
  refine G_iadd dL_law_671 ?_
  refine G_sld rfl dL_law_672 h5 h2 ?_
  exact G_VI (as := [vI (Γ.2.2.2.2.2.2 ((a3 + 1)).toNat).toInt, vI (Γ.2.2.2.2.2.2 ((a3 + 2)).toNat).toInt, vI (Γ.2.2.2.2.2.2 ((a3 + 3)).toNat).toInt, vI (Γ.2.2.2.2.2.2 ((a3 + 4)).toNat).toInt]) (st := []) n0_X6_likely dL_law_673 ml_RL_104 mc_X6_likely rfl ⟨by decide, h6, Nat.le_of_ble_eq_true rfl⟩ h7 ⟨_, _, rfl⟩ c8 (fun z u hq => kq z u hq)
theorem k_L_law_705 {Γ : Gm} {Ret : Option Value → Wd → Prop} {kc ks : Nat} {a3 : Int} {p1 p2 : Nat} {w : Wd} {Q : Int → Wd → Prop} (c7 : SpI Γ m_X6_year [vR p1, vI (Γ.2.2.2.2.2.2 ((a3 + 1)).toNat).toInt, vI (Γ.2.2.2.2.2.2 ((a3 + 2)).toNat).toInt, vI (Γ.2.2.2.2.2.2 ((a3 + 3)).toNat).toInt] w Q) (kq : ∀ (z : Int) (u : Wd), Q z u → G Γ m_L_law Ret kc ks 724 [some (vR 999), some (vR p1), some (vR p2), some (vI a3)] [vI z] u) (h1 : (0 : Int) ≤ (a3 + 1) ∧ (a3 + 1) < (Γ.2.2.2.2.2.1 : Int) := by omega) (h2 : Γ.2.2.2.2.2.1 < 2147483648 := by omega) (h3 : (0 : Int) ≤ (a3 + 2) ∧ (a3 + 2) < (Γ.2.2.2.2.2.1 : Int) := by omega) (h4 : (0 : Int) ≤ (a3 + 3) ∧ (a3 + 3) < (Γ.2.2.2.2.2.1 : Int) := by omega) (h5 : kc + m_X6_year.2.2.2.2.cells ≤ m_L_law.2.2.2.2.cells ∧ ks + m_X6_year.2.2.2.2.slots ≤ m_L_law.2.2.2.2.slots := by decide) (h6 : sh w p1 = some (.inr 6) := by assumption) : G Γ m_L_law Ret kc ks 705 [some (vR 999), some (vR p1), some (vR p2), some (vI a3)] [] w := by
  refine G_aload_n dL_law_705 rfl ?_
  refine G_aload_n dL_law_706 rfl ?_
  refine G_iload_n dL_law_707 rfl ?_
  refine G_const dL_law_708 ?_
  refine G_iadd dL_law_709 ?_
  refine G_sld rfl dL_law_710 h1 h2 ?_
  refine G_aload_n dL_law_711 rfl ?_
  refine G_iload_n dL_law_712 rfl ?_
  refine G_const dL_law_713 ?_
  refine G_iadd dL_law_714 ?_
  refine G_sld rfl dL_law_715 h3 h2 ?_
  refine G_aload_n dL_law_716 rfl ?_
  refine G_iload_n dL_law_717 rfl ?_
  refine G_const dL_law_718 ?_
  refine G_iadd dL_law_719 ?_
  refine G_sld rfl dL_law_720 h4 h2 ?_
  exact G_VI (as := [vI (Γ.2.2.2.2.2.2 ((a3 + 1)).toNat).toInt, vI (Γ.2.2.2.2.2.2 ((a3 + 2)).toNat).toInt, vI (Γ.2.2.2.2.2.2 ((a3 + 3)).toNat).toInt]) (st := []) n0_X6_year dL_law_721 ml_RL_109 mc_X6_year rfl ⟨by decide, h5, Nat.le_of_ble_eq_true rfl⟩ h6 ⟨_, _, rfl⟩ c7 (fun z u hq => kq z u hq)
theorem k_L_law_748 {Γ : Gm} {Ret : Option Value → Wd → Prop} {kc ks : Nat} {a3 : Int} {p1 p2 : Nat} {w : Wd} {Q : Int → Wd → Prop} (c3 : SpI Γ m_X6_keep [vR p1] w Q) (kq : ∀ (z : Int) (u : Wd), Q z u → G Γ m_L_law Ret kc ks 752 [some (vR 999), some (vR p1), some (vR p2), some (vI a3)] [vI z] u) (h1 : kc + m_X6_keep.2.2.2.2.cells ≤ m_L_law.2.2.2.2.cells ∧ ks + m_X6_keep.2.2.2.2.slots ≤ m_L_law.2.2.2.2.slots := by decide) (h2 : sh w p1 = some (.inr 6) := by assumption) : G Γ m_L_law Ret kc ks 748 [some (vR 999), some (vR p1), some (vR p2), some (vI a3)] [] w := by
  refine G_aload_n dL_law_748 rfl ?_
  exact G_VI (as := []) (st := []) n0_X6_keep dL_law_749 ml_RL_114 mc_X6_keep rfl ⟨by decide, h1, Nat.le_of_ble_eq_true rfl⟩ h2 ⟨_, _, rfl⟩ c3 (fun z u hq => kq z u hq)
theorem k_L_law_761 {Γ : Gm} {Ret : Option Value → Wd → Prop} {kc ks : Nat} {a3 : Int} {p1 p2 : Nat} {w : Wd} {Q : Int → Wd → Prop} (c3 : SpI Γ m_X6_back [vR p1] w Q) (kq : ∀ (z : Int) (u : Wd), Q z u → G Γ m_L_law Ret kc ks 765 [some (vR 999), some (vR p1), some (vR p2), some (vI a3)] [vI z] u) (h1 : kc + m_X6_back.2.2.2.2.cells ≤ m_L_law.2.2.2.2.cells ∧ ks + m_X6_back.2.2.2.2.slots ≤ m_L_law.2.2.2.2.slots := by decide) (h2 : sh w p1 = some (.inr 6) := by assumption) : G Γ m_L_law Ret kc ks 761 [some (vR 999), some (vR p1), some (vR p2), some (vI a3)] [] w := by
  refine G_aload_n dL_law_761 rfl ?_
  exact G_VI (as := []) (st := []) n0_X6_back dL_law_762 ml_RL_118 mc_X6_back rfl ⟨by decide, h1, Nat.le_of_ble_eq_true rfl⟩ h2 ⟨_, _, rfl⟩ c3 (fun z u hq => kq z u hq)
theorem k_L_law_774 {Γ : Gm} {Ret : Option Value → Wd → Prop} {kc ks : Nat} {a3 : Int} {p1 p2 : Nat} {w : Wd} {Q : Int → Wd → Prop} (c5 : SpI Γ m_X6_count [vR p1, vI (Γ.2.2.2.2.2.2 ((a3 + 1)).toNat).toInt] w Q) (kq : ∀ (z : Int) (u : Wd), Q z u → G Γ m_L_law Ret kc ks 783 [some (vR 999), some (vR p1), some (vR p2), some (vI a3)] [vI z] u) (h1 : (0 : Int) ≤ (a3 + 1) ∧ (a3 + 1) < (Γ.2.2.2.2.2.1 : Int) := by omega) (h2 : Γ.2.2.2.2.2.1 < 2147483648 := by omega) (h3 : kc + m_X6_count.2.2.2.2.cells ≤ m_L_law.2.2.2.2.cells ∧ ks + m_X6_count.2.2.2.2.slots ≤ m_L_law.2.2.2.2.slots := by decide) (h4 : sh w p1 = some (.inr 6) := by assumption) : G Γ m_L_law Ret kc ks 774 [some (vR 999), some (vR p1), some (vR p2), some (vI a3)] [] w := by
  refine G_aload_n dL_law_774 rfl ?_
  refine G_aload_n dL_law_775 rfl ?_
  refine G_iload_n dL_law_776 rfl ?_
  refine G_const dL_law_777 ?_
  refine G_iadd dL_law_778 ?_
  refine G_sld rfl dL_law_779 h1 h2 ?_
  exact G_VI (as := [vI (Γ.2.2.2.2.2.2 ((a3 + 1)).toNat).toInt]) (st := []) n0_X6_count dL_law_780 ml_RL_122 mc_X6_count rfl ⟨by decide, h3, Nat.le_of_ble_eq_true rfl⟩ h4 ⟨_, _, rfl⟩ c5 (fun z u hq => kq z u hq)
theorem k_L_law_797 {Γ : Gm} {Ret : Option Value → Wd → Prop} {kc ks : Nat} {a3 : Int} {p1 p2 : Nat} {w : Wd} (km : G Γ m_L_law Ret kc ks 18 [some (vR 999), some (vR p1), some (vR p2), some (vI (a3 + 5))] [] w) : G Γ m_L_law Ret kc ks 797 [some (vR 999), some (vR p1), some (vR p2), some (vI a3)] [] w := by
  refine G_iinc dL_law_797 (by decide) rfl rfl ?_
  refine G_goto dL_law_800 (tgt := 18) (by decide) ?_
  exact km
theorem k_L_law_165 {Γ : Gm} {Ret : Option Value → Wd → Prop} {kc ks : Nat} {a3 s0 : Int} {p1 p2 : Nat} {w : Wd} {Q : Int → Wd → Prop} (c5 : SpI Γ m_X7_write [vR p2, vI (Γ.2.2.2.2.2.2 ((a3 + 1)).toNat).toInt] w Q) (kq : ∀ (z : Int) (u : Wd), Q z u → G Γ m_L_law Ret kc ks 174 [some (vR 999), some (vR p1), some (vR p2), some (vI a3)] [vI z, vI s0] u) (h1 : (0 : Int) ≤ (a3 + 1) ∧ (a3 + 1) < (Γ.2.2.2.2.2.1 : Int) := by omega) (h2 : Γ.2.2.2.2.2.1 < 2147483648 := by omega) (h3 : kc + m_X7_write.2.2.2.2.cells ≤ m_L_law.2.2.2.2.cells ∧ ks + m_X7_write.2.2.2.2.slots ≤ m_L_law.2.2.2.2.slots := by decide) (h4 : sh w p2 = some (.inr 7) := by assumption) : G Γ m_L_law Ret kc ks 165 [some (vR 999), some (vR p1), some (vR p2), some (vI a3)] [vI s0] w := by
  refine G_aload_n dL_law_165 rfl ?_
  refine G_aload_n dL_law_166 rfl ?_
  refine G_iload_n dL_law_167 rfl ?_
  refine G_const dL_law_168 ?_
  refine G_iadd dL_law_169 ?_
  refine G_sld rfl dL_law_170 h1 h2 ?_
  exact G_VI (as := [vI (Γ.2.2.2.2.2.2 ((a3 + 1)).toNat).toInt]) (st := [vI s0]) n0_X7_write dL_law_171 ml_RL_17 mc_X7_write rfl ⟨by decide, h3, Nat.le_of_ble_eq_true rfl⟩ h4 ⟨_, _, rfl⟩ c5 (fun z u hq => kq z u hq)
theorem k_L_law_183 {Γ : Gm} {Ret : Option Value → Wd → Prop} {kc ks : Nat} {a3 s0 : Int} {p1 p2 : Nat} {w : Wd} {Q : Int → Wd → Prop} (c3 : SpI Γ m_X7_wipe [vR p2] w Q) (kq : ∀ (z : Int) (u : Wd), Q z u → G Γ m_L_law Ret kc ks 187 [some (vR 999), some (vR p1), some (vR p2), some (vI a3)] [vI z, vI s0] u) (h1 : kc + m_X7_wipe.2.2.2.2.cells ≤ m_L_law.2.2.2.2.cells ∧ ks + m_X7_wipe.2.2.2.2.slots ≤ m_L_law.2.2.2.2.slots := by decide) (h2 : sh w p2 = some (.inr 7) := by assumption) : G Γ m_L_law Ret kc ks 183 [some (vR 999), some (vR p1), some (vR p2), some (vI a3)] [vI s0] w := by
  refine G_aload_n dL_law_183 rfl ?_
  exact G_VI (as := []) (st := [vI s0]) n0_X7_wipe dL_law_184 ml_RL_22 mc_X7_wipe rfl ⟨by decide, h1, Nat.le_of_ble_eq_true rfl⟩ h2 ⟨_, _, rfl⟩ c3 (fun z u hq => kq z u hq)
theorem k_L_law_196 {Γ : Gm} {Ret : Option Value → Wd → Prop} {kc ks : Nat} {a3 s0 : Int} {p1 p2 : Nat} {w : Wd} {Q : Int → Wd → Prop} (c3 : SpI Γ m_X7_fault [vR p2] w Q) (kq : ∀ (z : Int) (u : Wd), Q z u → G Γ m_L_law Ret kc ks 200 [some (vR 999), some (vR p1), some (vR p2), some (vI a3)] [vI z, vI s0] u) (h1 : kc + m_X7_fault.2.2.2.2.cells ≤ m_L_law.2.2.2.2.cells ∧ ks + m_X7_fault.2.2.2.2.slots ≤ m_L_law.2.2.2.2.slots := by decide) (h2 : sh w p2 = some (.inr 7) := by assumption) : G Γ m_L_law Ret kc ks 196 [some (vR 999), some (vR p1), some (vR p2), some (vI a3)] [vI s0] w := by
  refine G_aload_n dL_law_196 rfl ?_
  exact G_VI (as := []) (st := [vI s0]) n0_X7_fault dL_law_197 ml_RL_26 mc_X7_fault rfl ⟨by decide, h1, Nat.le_of_ble_eq_true rfl⟩ h2 ⟨_, _, rfl⟩ c3 (fun z u hq => kq z u hq)
theorem k_L_law_209 {Γ : Gm} {Ret : Option Value → Wd → Prop} {kc ks : Nat} {a3 s0 : Int} {p1 p2 : Nat} {w : Wd} {Q : Int → Wd → Prop} (c3 : SpI Γ m_X7_lay [vR p2] w Q) (kq : ∀ (z : Int) (u : Wd), Q z u → G Γ m_L_law Ret kc ks 213 [some (vR 999), some (vR p1), some (vR p2), some (vI a3)] [vI z, vI s0] u) (h1 : kc + m_X7_lay.2.2.2.2.cells ≤ m_L_law.2.2.2.2.cells ∧ ks + m_X7_lay.2.2.2.2.slots ≤ m_L_law.2.2.2.2.slots := by decide) (h2 : sh w p2 = some (.inr 7) := by assumption) : G Γ m_L_law Ret kc ks 209 [some (vR 999), some (vR p1), some (vR p2), some (vI a3)] [vI s0] w := by
  refine G_aload_n dL_law_209 rfl ?_
  exact G_VI (as := []) (st := [vI s0]) n0_X7_lay dL_law_210 ml_RL_30 mc_X7_lay rfl ⟨by decide, h1, Nat.le_of_ble_eq_true rfl⟩ h2 ⟨_, _, rfl⟩ c3 (fun z u hq => kq z u hq)
theorem k_L_law_232 {Γ : Gm} {Ret : Option Value → Wd → Prop} {kc ks : Nat} {a3 s0 : Int} {p1 p2 : Nat} {w : Wd} {Q : Int → Wd → Prop} (c6 : SpI Γ m_X7_strip [vR p2, vI (Γ.2.2.2.2.2.2 ((a3 + 1)).toNat).toInt, vI (Γ.2.2.2.2.2.2 ((a3 + 2)).toNat).toInt] w Q) (kq : ∀ (z : Int) (u : Wd), Q z u → G Γ m_L_law Ret kc ks 246 [some (vR 999), some (vR p1), some (vR p2), some (vI a3)] [vI z, vI s0] u) (h1 : (0 : Int) ≤ (a3 + 1) ∧ (a3 + 1) < (Γ.2.2.2.2.2.1 : Int) := by omega) (h2 : Γ.2.2.2.2.2.1 < 2147483648 := by omega) (h3 : (0 : Int) ≤ (a3 + 2) ∧ (a3 + 2) < (Γ.2.2.2.2.2.1 : Int) := by omega) (h4 : kc + m_X7_strip.2.2.2.2.cells ≤ m_L_law.2.2.2.2.cells ∧ ks + m_X7_strip.2.2.2.2.slots ≤ m_L_law.2.2.2.2.slots := by decide) (h5 : sh w p2 = some (.inr 7) := by assumption) : G Γ m_L_law Ret kc ks 232 [some (vR 999), some (vR p1), some (vR p2), some (vI a3)] [vI s0] w := by
  refine G_aload_n dL_law_232 rfl ?_
  refine G_aload_n dL_law_233 rfl ?_
  refine G_iload_n dL_law_234 rfl ?_
  refine G_const dL_law_235 ?_
  refine G_iadd dL_law_236 ?_
  refine G_sld rfl dL_law_237 h1 h2 ?_
  refine G_aload_n dL_law_238 rfl ?_
  refine G_iload_n dL_law_239 rfl ?_
  refine G_const dL_law_240 ?_
  refine G_iadd dL_law_241 ?_
  refine G_sld rfl dL_law_242 h3 h2 ?_
  exact G_VI (as := [vI (Γ.2.2.2.2.2.2 ((a3 + 1)).toNat).toInt, vI (Γ.2.2.2.2.2.2 ((a3 + 2)).toNat).toInt]) (st := [vI s0]) n0_X7_strip dL_law_243 ml_RL_35 mc_X7_strip rfl ⟨by decide, h4, Nat.le_of_ble_eq_true rfl⟩ h5 ⟨_, _, rfl⟩ c6 (fun z u hq => kq z u hq)
theorem k_L_law_265 {Γ : Gm} {Ret : Option Value → Wd → Prop} {kc ks : Nat} {a3 s0 : Int} {p1 p2 : Nat} {w : Wd} {Q : Int → Wd → Prop} (c6 : SpI Γ m_X7_wall [vR p2, vI (Γ.2.2.2.2.2.2 ((a3 + 1)).toNat).toInt, vI (Γ.2.2.2.2.2.2 ((a3 + 2)).toNat).toInt] w Q) (kq : ∀ (z : Int) (u : Wd), Q z u → G Γ m_L_law Ret kc ks 279 [some (vR 999), some (vR p1), some (vR p2), some (vI a3)] [vI z, vI s0] u) (h1 : (0 : Int) ≤ (a3 + 1) ∧ (a3 + 1) < (Γ.2.2.2.2.2.1 : Int) := by omega) (h2 : Γ.2.2.2.2.2.1 < 2147483648 := by omega) (h3 : (0 : Int) ≤ (a3 + 2) ∧ (a3 + 2) < (Γ.2.2.2.2.2.1 : Int) := by omega) (h4 : kc + m_X7_wall.2.2.2.2.cells ≤ m_L_law.2.2.2.2.cells ∧ ks + m_X7_wall.2.2.2.2.slots ≤ m_L_law.2.2.2.2.slots := by decide) (h5 : sh w p2 = some (.inr 7) := by assumption) : G Γ m_L_law Ret kc ks 265 [some (vR 999), some (vR p1), some (vR p2), some (vI a3)] [vI s0] w := by
  refine G_aload_n dL_law_265 rfl ?_
  refine G_aload_n dL_law_266 rfl ?_
  refine G_iload_n dL_law_267 rfl ?_
  refine G_const dL_law_268 ?_
  refine G_iadd dL_law_269 ?_
  refine G_sld rfl dL_law_270 h1 h2 ?_
  refine G_aload_n dL_law_271 rfl ?_
  refine G_iload_n dL_law_272 rfl ?_
  refine G_const dL_law_273 ?_
  refine G_iadd dL_law_274 ?_
  refine G_sld rfl dL_law_275 h3 h2 ?_
  exact G_VI (as := [vI (Γ.2.2.2.2.2.2 ((a3 + 1)).toNat).toInt, vI (Γ.2.2.2.2.2.2 ((a3 + 2)).toNat).toInt]) (st := [vI s0]) n0_X7_wall dL_law_276 ml_RL_39 mc_X7_wall rfl ⟨by decide, h4, Nat.le_of_ble_eq_true rfl⟩ h5 ⟨_, _, rfl⟩ c6 (fun z u hq => kq z u hq)
theorem k_L_law_293 {Γ : Gm} {Ret : Option Value → Wd → Prop} {kc ks : Nat} {a3 s0 : Int} {p1 p2 : Nat} {w : Wd} {Q : Int → Wd → Prop} (c5 : SpI Γ m_X7_damp [vR p2, vI (Γ.2.2.2.2.2.2 ((a3 + 1)).toNat).toInt] w Q) (kq : ∀ (z : Int) (u : Wd), Q z u → G Γ m_L_law Ret kc ks 302 [some (vR 999), some (vR p1), some (vR p2), some (vI a3)] [vI z, vI s0] u) (h1 : (0 : Int) ≤ (a3 + 1) ∧ (a3 + 1) < (Γ.2.2.2.2.2.1 : Int) := by omega) (h2 : Γ.2.2.2.2.2.1 < 2147483648 := by omega) (h3 : kc + m_X7_damp.2.2.2.2.cells ≤ m_L_law.2.2.2.2.cells ∧ ks + m_X7_damp.2.2.2.2.slots ≤ m_L_law.2.2.2.2.slots := by decide) (h4 : sh w p2 = some (.inr 7) := by assumption) : G Γ m_L_law Ret kc ks 293 [some (vR 999), some (vR p1), some (vR p2), some (vI a3)] [vI s0] w := by
  refine G_aload_n dL_law_293 rfl ?_
  refine G_aload_n dL_law_294 rfl ?_
  refine G_iload_n dL_law_295 rfl ?_
  refine G_const dL_law_296 ?_
  refine G_iadd dL_law_297 ?_
  refine G_sld rfl dL_law_298 h1 h2 ?_
  exact G_VI (as := [vI (Γ.2.2.2.2.2.2 ((a3 + 1)).toNat).toInt]) (st := [vI s0]) n0_X7_damp dL_law_299 ml_RL_43 mc_X7_damp rfl ⟨by decide, h3, Nat.le_of_ble_eq_true rfl⟩ h4 ⟨_, _, rfl⟩ c5 (fun z u hq => kq z u hq)
theorem k_L_law_316 {Γ : Gm} {Ret : Option Value → Wd → Prop} {kc ks : Nat} {a3 s0 : Int} {p1 p2 : Nat} {w : Wd} {Q : Int → Wd → Prop} (c5 : SpI Γ m_X7_cut [vR p2, vI (Γ.2.2.2.2.2.2 ((a3 + 1)).toNat).toInt] w Q) (kq : ∀ (z : Int) (u : Wd), Q z u → G Γ m_L_law Ret kc ks 325 [some (vR 999), some (vR p1), some (vR p2), some (vI a3)] [vI z, vI s0] u) (h1 : (0 : Int) ≤ (a3 + 1) ∧ (a3 + 1) < (Γ.2.2.2.2.2.1 : Int) := by omega) (h2 : Γ.2.2.2.2.2.1 < 2147483648 := by omega) (h3 : kc + m_X7_cut.2.2.2.2.cells ≤ m_L_law.2.2.2.2.cells ∧ ks + m_X7_cut.2.2.2.2.slots ≤ m_L_law.2.2.2.2.slots := by decide) (h4 : sh w p2 = some (.inr 7) := by assumption) : G Γ m_L_law Ret kc ks 316 [some (vR 999), some (vR p1), some (vR p2), some (vI a3)] [vI s0] w := by
  refine G_aload_n dL_law_316 rfl ?_
  refine G_aload_n dL_law_317 rfl ?_
  refine G_iload_n dL_law_318 rfl ?_
  refine G_const dL_law_319 ?_
  refine G_iadd dL_law_320 ?_
  refine G_sld rfl dL_law_321 h1 h2 ?_
  exact G_VI (as := [vI (Γ.2.2.2.2.2.2 ((a3 + 1)).toNat).toInt]) (st := [vI s0]) n0_X7_cut dL_law_322 ml_RL_47 mc_X7_cut rfl ⟨by decide, h3, Nat.le_of_ble_eq_true rfl⟩ h4 ⟨_, _, rfl⟩ c5 (fun z u hq => kq z u hq)
theorem k_L_law_344 {Γ : Gm} {Ret : Option Value → Wd → Prop} {kc ks : Nat} {a3 s0 : Int} {p1 p2 : Nat} {w : Wd} {Q : Int → Wd → Prop} (c6 : SpI Γ m_X7_hook [vR p2, vI (Γ.2.2.2.2.2.2 ((a3 + 1)).toNat).toInt, vI (Γ.2.2.2.2.2.2 ((a3 + 2)).toNat).toInt] w Q) (kq : ∀ (z : Int) (u : Wd), Q z u → G Γ m_L_law Ret kc ks 358 [some (vR 999), some (vR p1), some (vR p2), some (vI a3)] [vI z, vI s0] u) (h1 : (0 : Int) ≤ (a3 + 1) ∧ (a3 + 1) < (Γ.2.2.2.2.2.1 : Int) := by omega) (h2 : Γ.2.2.2.2.2.1 < 2147483648 := by omega) (h3 : (0 : Int) ≤ (a3 + 2) ∧ (a3 + 2) < (Γ.2.2.2.2.2.1 : Int) := by omega) (h4 : kc + m_X7_hook.2.2.2.2.cells ≤ m_L_law.2.2.2.2.cells ∧ ks + m_X7_hook.2.2.2.2.slots ≤ m_L_law.2.2.2.2.slots := by decide) (h5 : sh w p2 = some (.inr 7) := by assumption) : G Γ m_L_law Ret kc ks 344 [some (vR 999), some (vR p1), some (vR p2), some (vI a3)] [vI s0] w := by
  refine G_aload_n dL_law_344 rfl ?_
  refine G_aload_n dL_law_345 rfl ?_
  refine G_iload_n dL_law_346 rfl ?_
  refine G_const dL_law_347 ?_
  refine G_iadd dL_law_348 ?_
  refine G_sld rfl dL_law_349 h1 h2 ?_
  refine G_aload_n dL_law_350 rfl ?_
  refine G_iload_n dL_law_351 rfl ?_
  refine G_const dL_law_352 ?_
  refine G_iadd dL_law_353 ?_
  refine G_sld rfl dL_law_354 h3 h2 ?_
  exact G_VI (as := [vI (Γ.2.2.2.2.2.2 ((a3 + 1)).toNat).toInt, vI (Γ.2.2.2.2.2.2 ((a3 + 2)).toNat).toInt]) (st := [vI s0]) n0_X7_hook dL_law_355 ml_RL_51 mc_X7_hook rfl ⟨by decide, h4, Nat.le_of_ble_eq_true rfl⟩ h5 ⟨_, _, rfl⟩ c6 (fun z u hq => kq z u hq)
theorem k_L_law_372 {Γ : Gm} {Ret : Option Value → Wd → Prop} {kc ks : Nat} {a3 s0 : Int} {p1 p2 : Nat} {w : Wd} {Q : Int → Wd → Prop} (c5 : SpI Γ m_X7_letGo [vR p2, vI (Γ.2.2.2.2.2.2 ((a3 + 1)).toNat).toInt] w Q) (kq : ∀ (z : Int) (u : Wd), Q z u → G Γ m_L_law Ret kc ks 381 [some (vR 999), some (vR p1), some (vR p2), some (vI a3)] [vI z, vI s0] u) (h1 : (0 : Int) ≤ (a3 + 1) ∧ (a3 + 1) < (Γ.2.2.2.2.2.1 : Int) := by omega) (h2 : Γ.2.2.2.2.2.1 < 2147483648 := by omega) (h3 : kc + m_X7_letGo.2.2.2.2.cells ≤ m_L_law.2.2.2.2.cells ∧ ks + m_X7_letGo.2.2.2.2.slots ≤ m_L_law.2.2.2.2.slots := by decide) (h4 : sh w p2 = some (.inr 7) := by assumption) : G Γ m_L_law Ret kc ks 372 [some (vR 999), some (vR p1), some (vR p2), some (vI a3)] [vI s0] w := by
  refine G_aload_n dL_law_372 rfl ?_
  refine G_aload_n dL_law_373 rfl ?_
  refine G_iload_n dL_law_374 rfl ?_
  refine G_const dL_law_375 ?_
  refine G_iadd dL_law_376 ?_
  refine G_sld rfl dL_law_377 h1 h2 ?_
  exact G_VI (as := [vI (Γ.2.2.2.2.2.2 ((a3 + 1)).toNat).toInt]) (st := [vI s0]) n0_X7_letGo dL_law_378 ml_RL_55 mc_X7_letGo rfl ⟨by decide, h3, Nat.le_of_ble_eq_true rfl⟩ h4 ⟨_, _, rfl⟩ c5 (fun z u hq => kq z u hq)
theorem k_L_law_395 {Γ : Gm} {Ret : Option Value → Wd → Prop} {kc ks : Nat} {a3 s0 : Int} {p1 p2 : Nat} {w : Wd} {Q : Int → Wd → Prop} (c5 : SpI Γ m_X7_pass [vR p2, vI (Γ.2.2.2.2.2.2 ((a3 + 1)).toNat).toInt] w Q) (kq : ∀ (z : Int) (u : Wd), Q z u → G Γ m_L_law Ret kc ks 404 [some (vR 999), some (vR p1), some (vR p2), some (vI a3)] [vI z, vI s0] u) (h1 : (0 : Int) ≤ (a3 + 1) ∧ (a3 + 1) < (Γ.2.2.2.2.2.1 : Int) := by omega) (h2 : Γ.2.2.2.2.2.1 < 2147483648 := by omega) (h3 : kc + m_X7_pass.2.2.2.2.cells ≤ m_L_law.2.2.2.2.cells ∧ ks + m_X7_pass.2.2.2.2.slots ≤ m_L_law.2.2.2.2.slots := by decide) (h4 : sh w p2 = some (.inr 7) := by assumption) : G Γ m_L_law Ret kc ks 395 [some (vR 999), some (vR p1), some (vR p2), some (vI a3)] [vI s0] w := by
  refine G_aload_n dL_law_395 rfl ?_
  refine G_aload_n dL_law_396 rfl ?_
  refine G_iload_n dL_law_397 rfl ?_
  refine G_const dL_law_398 ?_
  refine G_iadd dL_law_399 ?_
  refine G_sld rfl dL_law_400 h1 h2 ?_
  exact G_VI (as := [vI (Γ.2.2.2.2.2.2 ((a3 + 1)).toNat).toInt]) (st := [vI s0]) n0_X7_pass dL_law_401 ml_RL_59 mc_X7_pass rfl ⟨by decide, h3, Nat.le_of_ble_eq_true rfl⟩ h4 ⟨_, _, rfl⟩ c5 (fun z u hq => kq z u hq)
theorem k_L_law_413 {Γ : Gm} {Ret : Option Value → Wd → Prop} {kc ks : Nat} {a3 s0 : Int} {p1 p2 : Nat} {w : Wd} {Q : Int → Wd → Prop} (c3 : SpI Γ m_X7_undo [vR p2] w Q) (kq : ∀ (z : Int) (u : Wd), Q z u → G Γ m_L_law Ret kc ks 417 [some (vR 999), some (vR p1), some (vR p2), some (vI a3)] [vI z, vI s0] u) (h1 : kc + m_X7_undo.2.2.2.2.cells ≤ m_L_law.2.2.2.2.cells ∧ ks + m_X7_undo.2.2.2.2.slots ≤ m_L_law.2.2.2.2.slots := by decide) (h2 : sh w p2 = some (.inr 7) := by assumption) : G Γ m_L_law Ret kc ks 413 [some (vR 999), some (vR p1), some (vR p2), some (vI a3)] [vI s0] w := by
  refine G_aload_n dL_law_413 rfl ?_
  exact G_VI (as := []) (st := [vI s0]) n0_X7_undo dL_law_414 ml_RL_63 mc_X7_undo rfl ⟨by decide, h1, Nat.le_of_ble_eq_true rfl⟩ h2 ⟨_, _, rfl⟩ c3 (fun z u hq => kq z u hq)
theorem k_L_law_431 {Γ : Gm} {Ret : Option Value → Wd → Prop} {kc ks : Nat} {a3 s0 : Int} {p1 p2 : Nat} {w : Wd} {Q : Int → Wd → Prop} (c5 : SpI Γ m_X7_plan [vR p2, vI (Γ.2.2.2.2.2.2 ((a3 + 1)).toNat).toInt] w Q) (kq : ∀ (z : Int) (u : Wd), Q z u → G Γ m_L_law Ret kc ks 440 [some (vR 999), some (vR p1), some (vR p2), some (vI a3)] [vI z, vI s0] u) (h1 : (0 : Int) ≤ (a3 + 1) ∧ (a3 + 1) < (Γ.2.2.2.2.2.1 : Int) := by omega) (h2 : Γ.2.2.2.2.2.1 < 2147483648 := by omega) (h3 : kc + m_X7_plan.2.2.2.2.cells ≤ m_L_law.2.2.2.2.cells ∧ ks + m_X7_plan.2.2.2.2.slots ≤ m_L_law.2.2.2.2.slots := by decide) (h4 : sh w p2 = some (.inr 7) := by assumption) : G Γ m_L_law Ret kc ks 431 [some (vR 999), some (vR p1), some (vR p2), some (vI a3)] [vI s0] w := by
  refine G_aload_n dL_law_431 rfl ?_
  refine G_aload_n dL_law_432 rfl ?_
  refine G_iload_n dL_law_433 rfl ?_
  refine G_const dL_law_434 ?_
  refine G_iadd dL_law_435 ?_
  refine G_sld rfl dL_law_436 h1 h2 ?_
  exact G_VI (as := [vI (Γ.2.2.2.2.2.2 ((a3 + 1)).toNat).toInt]) (st := [vI s0]) n0_X7_plan dL_law_437 ml_RL_67 mc_X7_plan rfl ⟨by decide, h3, Nat.le_of_ble_eq_true rfl⟩ h4 ⟨_, _, rfl⟩ c5 (fun z u hq => kq z u hq)
theorem k_L_law_454 {Γ : Gm} {Ret : Option Value → Wd → Prop} {kc ks : Nat} {a3 s0 : Int} {p1 p2 : Nat} {w : Wd} {Q : Int → Wd → Prop} (c5 : SpI Γ m_X7_order [vR p2, vI (Γ.2.2.2.2.2.2 ((a3 + 1)).toNat).toInt] w Q) (kq : ∀ (z : Int) (u : Wd), Q z u → G Γ m_L_law Ret kc ks 463 [some (vR 999), some (vR p1), some (vR p2), some (vI a3)] [vI z, vI s0] u) (h1 : (0 : Int) ≤ (a3 + 1) ∧ (a3 + 1) < (Γ.2.2.2.2.2.1 : Int) := by omega) (h2 : Γ.2.2.2.2.2.1 < 2147483648 := by omega) (h3 : kc + m_X7_order.2.2.2.2.cells ≤ m_L_law.2.2.2.2.cells ∧ ks + m_X7_order.2.2.2.2.slots ≤ m_L_law.2.2.2.2.slots := by decide) (h4 : sh w p2 = some (.inr 7) := by assumption) : G Γ m_L_law Ret kc ks 454 [some (vR 999), some (vR p1), some (vR p2), some (vI a3)] [vI s0] w := by
  refine G_aload_n dL_law_454 rfl ?_
  refine G_aload_n dL_law_455 rfl ?_
  refine G_iload_n dL_law_456 rfl ?_
  refine G_const dL_law_457 ?_
  refine G_iadd dL_law_458 ?_
  refine G_sld rfl dL_law_459 h1 h2 ?_
  exact G_VI (as := [vI (Γ.2.2.2.2.2.2 ((a3 + 1)).toNat).toInt]) (st := [vI s0]) n0_X7_order dL_law_460 ml_RL_71 mc_X7_order rfl ⟨by decide, h3, Nat.le_of_ble_eq_true rfl⟩ h4 ⟨_, _, rfl⟩ c5 (fun z u hq => kq z u hq)
theorem k_L_law_482 {Γ : Gm} {Ret : Option Value → Wd → Prop} {kc ks : Nat} {a3 s0 : Int} {p1 p2 : Nat} {w : Wd} {Q : Int → Wd → Prop} (c6 : SpI Γ m_X7_kickFor [vR p2, vI (Γ.2.2.2.2.2.2 ((a3 + 1)).toNat).toInt, vI (Γ.2.2.2.2.2.2 ((a3 + 2)).toNat).toInt] w Q) (kq : ∀ (z : Int) (u : Wd), Q z u → G Γ m_L_law Ret kc ks 496 [some (vR 999), some (vR p1), some (vR p2), some (vI a3)] [vI z, vI s0] u) (h1 : (0 : Int) ≤ (a3 + 1) ∧ (a3 + 1) < (Γ.2.2.2.2.2.1 : Int) := by omega) (h2 : Γ.2.2.2.2.2.1 < 2147483648 := by omega) (h3 : (0 : Int) ≤ (a3 + 2) ∧ (a3 + 2) < (Γ.2.2.2.2.2.1 : Int) := by omega) (h4 : kc + m_X7_kickFor.2.2.2.2.cells ≤ m_L_law.2.2.2.2.cells ∧ ks + m_X7_kickFor.2.2.2.2.slots ≤ m_L_law.2.2.2.2.slots := by decide) (h5 : sh w p2 = some (.inr 7) := by assumption) : G Γ m_L_law Ret kc ks 482 [some (vR 999), some (vR p1), some (vR p2), some (vI a3)] [vI s0] w := by
  refine G_aload_n dL_law_482 rfl ?_
  refine G_aload_n dL_law_483 rfl ?_
  refine G_iload_n dL_law_484 rfl ?_
  refine G_const dL_law_485 ?_
  refine G_iadd dL_law_486 ?_
  refine G_sld rfl dL_law_487 h1 h2 ?_
  refine G_aload_n dL_law_488 rfl ?_
  refine G_iload_n dL_law_489 rfl ?_
  refine G_const dL_law_490 ?_
  refine G_iadd dL_law_491 ?_
  refine G_sld rfl dL_law_492 h3 h2 ?_
  exact G_VI (as := [vI (Γ.2.2.2.2.2.2 ((a3 + 1)).toNat).toInt, vI (Γ.2.2.2.2.2.2 ((a3 + 2)).toNat).toInt]) (st := [vI s0]) n0_X7_kickFor dL_law_493 ml_RL_75 mc_X7_kickFor rfl ⟨by decide, h4, Nat.le_of_ble_eq_true rfl⟩ h5 ⟨_, _, rfl⟩ c6 (fun z u hq => kq z u hq)
theorem k_L_law_505 {Γ : Gm} {Ret : Option Value → Wd → Prop} {kc ks : Nat} {a3 s0 : Int} {p1 p2 : Nat} {w : Wd} {Q : Int → Wd → Prop} (c3 : SpI Γ m_X7_waves [vR p2] w Q) (kq : ∀ (z : Int) (u : Wd), Q z u → G Γ m_L_law Ret kc ks 509 [some (vR 999), some (vR p1), some (vR p2), some (vI a3)] [vI z, vI s0] u) (h1 : kc + m_X7_waves.2.2.2.2.cells ≤ m_L_law.2.2.2.2.cells ∧ ks + m_X7_waves.2.2.2.2.slots ≤ m_L_law.2.2.2.2.slots := by decide) (h2 : sh w p2 = some (.inr 7) := by assumption) : G Γ m_L_law Ret kc ks 505 [some (vR 999), some (vR p1), some (vR p2), some (vI a3)] [vI s0] w := by
  refine G_aload_n dL_law_505 rfl ?_
  exact G_VI (as := []) (st := [vI s0]) n0_X7_waves dL_law_506 ml_RL_79 mc_X7_waves rfl ⟨by decide, h1, Nat.le_of_ble_eq_true rfl⟩ h2 ⟨_, _, rfl⟩ c3 (fun z u hq => kq z u hq)
theorem k_L_law_518 {Γ : Gm} {Ret : Option Value → Wd → Prop} {kc ks : Nat} {a3 s0 : Int} {p1 p2 : Nat} {w : Wd} {Q : Int → Wd → Prop} (c3 : SpI Γ m_X7_longest [vR p2] w Q) (kq : ∀ (z : Int) (u : Wd), Q z u → G Γ m_L_law Ret kc ks 522 [some (vR 999), some (vR p1), some (vR p2), some (vI a3)] [vI z, vI s0] u) (h1 : kc + m_X7_longest.2.2.2.2.cells ≤ m_L_law.2.2.2.2.cells ∧ ks + m_X7_longest.2.2.2.2.slots ≤ m_L_law.2.2.2.2.slots := by decide) (h2 : sh w p2 = some (.inr 7) := by assumption) : G Γ m_L_law Ret kc ks 518 [some (vR 999), some (vR p1), some (vR p2), some (vI a3)] [vI s0] w := by
  refine G_aload_n dL_law_518 rfl ?_
  exact G_VI (as := []) (st := [vI s0]) n0_X7_longest dL_law_519 ml_RL_83 mc_X7_longest rfl ⟨by decide, h1, Nat.le_of_ble_eq_true rfl⟩ h2 ⟨_, _, rfl⟩ c3 (fun z u hq => kq z u hq)
theorem k_L_law_541 {Γ : Gm} {Ret : Option Value → Wd → Prop} {kc ks : Nat} {a3 s0 : Int} {p1 p2 : Nat} {w : Wd} {Q : Int → Wd → Prop} (c6 : SpI Γ m_X7_seen [vR p2, vI (Γ.2.2.2.2.2.2 ((a3 + 1)).toNat).toInt, vI (Γ.2.2.2.2.2.2 ((a3 + 2)).toNat).toInt] w Q) (kq : ∀ (z : Int) (u : Wd), Q z u → G Γ m_L_law Ret kc ks 555 [some (vR 999), some (vR p1), some (vR p2), some (vI a3)] [vI z, vI s0] u) (h1 : (0 : Int) ≤ (a3 + 1) ∧ (a3 + 1) < (Γ.2.2.2.2.2.1 : Int) := by omega) (h2 : Γ.2.2.2.2.2.1 < 2147483648 := by omega) (h3 : (0 : Int) ≤ (a3 + 2) ∧ (a3 + 2) < (Γ.2.2.2.2.2.1 : Int) := by omega) (h4 : kc + m_X7_seen.2.2.2.2.cells ≤ m_L_law.2.2.2.2.cells ∧ ks + m_X7_seen.2.2.2.2.slots ≤ m_L_law.2.2.2.2.slots := by decide) (h5 : sh w p2 = some (.inr 7) := by assumption) : G Γ m_L_law Ret kc ks 541 [some (vR 999), some (vR p1), some (vR p2), some (vI a3)] [vI s0] w := by
  refine G_aload_n dL_law_541 rfl ?_
  refine G_aload_n dL_law_542 rfl ?_
  refine G_iload_n dL_law_543 rfl ?_
  refine G_const dL_law_544 ?_
  refine G_iadd dL_law_545 ?_
  refine G_sld rfl dL_law_546 h1 h2 ?_
  refine G_aload_n dL_law_547 rfl ?_
  refine G_iload_n dL_law_548 rfl ?_
  refine G_const dL_law_549 ?_
  refine G_iadd dL_law_550 ?_
  refine G_sld rfl dL_law_551 h3 h2 ?_
  exact G_VI (as := [vI (Γ.2.2.2.2.2.2 ((a3 + 1)).toNat).toInt, vI (Γ.2.2.2.2.2.2 ((a3 + 2)).toNat).toInt]) (st := [vI s0]) n0_X7_seen dL_law_552 ml_RL_87 mc_X7_seen rfl ⟨by decide, h4, Nat.le_of_ble_eq_true rfl⟩ h5 ⟨_, _, rfl⟩ c6 (fun z u hq => kq z u hq)
theorem k_L_law_564 {Γ : Gm} {Ret : Option Value → Wd → Prop} {kc ks : Nat} {a3 s0 : Int} {p1 p2 : Nat} {w : Wd} {Q : Int → Wd → Prop} (c3 : SpI Γ m_X7_forget [vR p2] w Q) (kq : ∀ (z : Int) (u : Wd), Q z u → G Γ m_L_law Ret kc ks 568 [some (vR 999), some (vR p1), some (vR p2), some (vI a3)] [vI z, vI s0] u) (h1 : kc + m_X7_forget.2.2.2.2.cells ≤ m_L_law.2.2.2.2.cells ∧ ks + m_X7_forget.2.2.2.2.slots ≤ m_L_law.2.2.2.2.slots := by decide) (h2 : sh w p2 = some (.inr 7) := by assumption) : G Γ m_L_law Ret kc ks 564 [some (vR 999), some (vR p1), some (vR p2), some (vI a3)] [vI s0] w := by
  refine G_aload_n dL_law_564 rfl ?_
  exact G_VI (as := []) (st := [vI s0]) n0_X7_forget dL_law_565 ml_RL_91 mc_X7_forget rfl ⟨by decide, h1, Nat.le_of_ble_eq_true rfl⟩ h2 ⟨_, _, rfl⟩ c3 (fun z u hq => kq z u hq)
theorem k_L_law_582 {Γ : Gm} {Ret : Option Value → Wd → Prop} {kc ks : Nat} {a3 s0 : Int} {p1 p2 : Nat} {w : Wd} {Q : Int → Wd → Prop} (c5 : SpI Γ m_X7_may [vR p2, vI (Γ.2.2.2.2.2.2 ((a3 + 1)).toNat).toInt] w Q) (kq : ∀ (z : Int) (u : Wd), Q z u → G Γ m_L_law Ret kc ks 591 [some (vR 999), some (vR p1), some (vR p2), some (vI a3)] [vI z, vI s0] u) (h1 : (0 : Int) ≤ (a3 + 1) ∧ (a3 + 1) < (Γ.2.2.2.2.2.1 : Int) := by omega) (h2 : Γ.2.2.2.2.2.1 < 2147483648 := by omega) (h3 : kc + m_X7_may.2.2.2.2.cells ≤ m_L_law.2.2.2.2.cells ∧ ks + m_X7_may.2.2.2.2.slots ≤ m_L_law.2.2.2.2.slots := by decide) (h4 : sh w p2 = some (.inr 7) := by assumption) : G Γ m_L_law Ret kc ks 582 [some (vR 999), some (vR p1), some (vR p2), some (vI a3)] [vI s0] w := by
  refine G_aload_n dL_law_582 rfl ?_
  refine G_aload_n dL_law_583 rfl ?_
  refine G_iload_n dL_law_584 rfl ?_
  refine G_const dL_law_585 ?_
  refine G_iadd dL_law_586 ?_
  refine G_sld rfl dL_law_587 h1 h2 ?_
  exact G_VI (as := [vI (Γ.2.2.2.2.2.2 ((a3 + 1)).toNat).toInt]) (st := [vI s0]) n0_X7_may dL_law_588 ml_RL_95 mc_X7_may rfl ⟨by decide, h3, Nat.le_of_ble_eq_true rfl⟩ h4 ⟨_, _, rfl⟩ c5 (fun z u hq => kq z u hq)
theorem k_L_law_610 {Γ : Gm} {Ret : Option Value → Wd → Prop} {kc ks : Nat} {a3 s0 : Int} {p1 p2 : Nat} {w : Wd} {Q : Int → Wd → Prop} (c6 : SpI Γ m_X7_hall [vR p2, vI (Γ.2.2.2.2.2.2 ((a3 + 1)).toNat).toInt, vI (Γ.2.2.2.2.2.2 ((a3 + 2)).toNat).toInt] w Q) (kq : ∀ (z : Int) (u : Wd), Q z u → G Γ m_L_law Ret kc ks 624 [some (vR 999), some (vR p1), some (vR p2), some (vI a3)] [vI z, vI s0] u) (h1 : (0 : Int) ≤ (a3 + 1) ∧ (a3 + 1) < (Γ.2.2.2.2.2.1 : Int) := by omega) (h2 : Γ.2.2.2.2.2.1 < 2147483648 := by omega) (h3 : (0 : Int) ≤ (a3 + 2) ∧ (a3 + 2) < (Γ.2.2.2.2.2.1 : Int) := by omega) (h4 : kc + m_X7_hall.2.2.2.2.cells ≤ m_L_law.2.2.2.2.cells ∧ ks + m_X7_hall.2.2.2.2.slots ≤ m_L_law.2.2.2.2.slots := by decide) (h5 : sh w p2 = some (.inr 7) := by assumption) : G Γ m_L_law Ret kc ks 610 [some (vR 999), some (vR p1), some (vR p2), some (vI a3)] [vI s0] w := by
  refine G_aload_n dL_law_610 rfl ?_
  refine G_aload_n dL_law_611 rfl ?_
  refine G_iload_n dL_law_612 rfl ?_
  refine G_const dL_law_613 ?_
  refine G_iadd dL_law_614 ?_
  refine G_sld rfl dL_law_615 h1 h2 ?_
  refine G_aload_n dL_law_616 rfl ?_
  refine G_iload_n dL_law_617 rfl ?_
  refine G_const dL_law_618 ?_
  refine G_iadd dL_law_619 ?_
  refine G_sld rfl dL_law_620 h3 h2 ?_
  exact G_VI (as := [vI (Γ.2.2.2.2.2.2 ((a3 + 1)).toNat).toInt, vI (Γ.2.2.2.2.2.2 ((a3 + 2)).toNat).toInt]) (st := [vI s0]) n0_X7_hall dL_law_621 ml_RL_99 mc_X7_hall rfl ⟨by decide, h4, Nat.le_of_ble_eq_true rfl⟩ h5 ⟨_, _, rfl⟩ c6 (fun z u hq => kq z u hq)
theorem k_L_law_638 {Γ : Gm} {Ret : Option Value → Wd → Prop} {kc ks : Nat} {a3 s0 : Int} {p1 p2 : Nat} {w : Wd} {Q : Int → Wd → Prop} (c5 : SpI Γ m_X7_left [vR p2, vI (Γ.2.2.2.2.2.2 ((a3 + 1)).toNat).toInt] w Q) (kq : ∀ (z : Int) (u : Wd), Q z u → G Γ m_L_law Ret kc ks 647 [some (vR 999), some (vR p1), some (vR p2), some (vI a3)] [vI z, vI s0] u) (h1 : (0 : Int) ≤ (a3 + 1) ∧ (a3 + 1) < (Γ.2.2.2.2.2.1 : Int) := by omega) (h2 : Γ.2.2.2.2.2.1 < 2147483648 := by omega) (h3 : kc + m_X7_left.2.2.2.2.cells ≤ m_L_law.2.2.2.2.cells ∧ ks + m_X7_left.2.2.2.2.slots ≤ m_L_law.2.2.2.2.slots := by decide) (h4 : sh w p2 = some (.inr 7) := by assumption) : G Γ m_L_law Ret kc ks 638 [some (vR 999), some (vR p1), some (vR p2), some (vI a3)] [vI s0] w := by
  refine G_aload_n dL_law_638 rfl ?_
  refine G_aload_n dL_law_639 rfl ?_
  refine G_iload_n dL_law_640 rfl ?_
  refine G_const dL_law_641 ?_
  refine G_iadd dL_law_642 ?_
  refine G_sld rfl dL_law_643 h1 h2 ?_
  exact G_VI (as := [vI (Γ.2.2.2.2.2.2 ((a3 + 1)).toNat).toInt]) (st := [vI s0]) n0_X7_left dL_law_644 ml_RL_103 mc_X7_left rfl ⟨by decide, h3, Nat.le_of_ble_eq_true rfl⟩ h4 ⟨_, _, rfl⟩ c5 (fun z u hq => kq z u hq)
theorem k_L_law_676 {Γ : Gm} {Ret : Option Value → Wd → Prop} {kc ks : Nat} {a3 s0 : Int} {p1 p2 : Nat} {w : Wd} {Q : Int → Wd → Prop} (c8 : SpI Γ m_X7_likely [vR p2, vI (Γ.2.2.2.2.2.2 ((a3 + 1)).toNat).toInt, vI (Γ.2.2.2.2.2.2 ((a3 + 2)).toNat).toInt, vI (Γ.2.2.2.2.2.2 ((a3 + 3)).toNat).toInt, vI (Γ.2.2.2.2.2.2 ((a3 + 4)).toNat).toInt] w Q) (kq : ∀ (z : Int) (u : Wd), Q z u → G Γ m_L_law Ret kc ks 700 [some (vR 999), some (vR p1), some (vR p2), some (vI a3)] [vI z, vI s0] u) (h1 : (0 : Int) ≤ (a3 + 1) ∧ (a3 + 1) < (Γ.2.2.2.2.2.1 : Int) := by omega) (h2 : Γ.2.2.2.2.2.1 < 2147483648 := by omega) (h3 : (0 : Int) ≤ (a3 + 2) ∧ (a3 + 2) < (Γ.2.2.2.2.2.1 : Int) := by omega) (h4 : (0 : Int) ≤ (a3 + 3) ∧ (a3 + 3) < (Γ.2.2.2.2.2.1 : Int) := by omega) (h5 : (0 : Int) ≤ (a3 + 4) ∧ (a3 + 4) < (Γ.2.2.2.2.2.1 : Int) := by omega) (h6 : kc + m_X7_likely.2.2.2.2.cells ≤ m_L_law.2.2.2.2.cells ∧ ks + m_X7_likely.2.2.2.2.slots ≤ m_L_law.2.2.2.2.slots := by decide) (h7 : sh w p2 = some (.inr 7) := by assumption) : G Γ m_L_law Ret kc ks 676 [some (vR 999), some (vR p1), some (vR p2), some (vI a3)] [vI s0] w := by
  refine G_aload_n dL_law_676 rfl ?_
  refine G_aload_n dL_law_677 rfl ?_
  refine G_iload_n dL_law_678 rfl ?_
  refine G_const dL_law_679 ?_
  refine G_iadd dL_law_680 ?_
  refine G_sld rfl dL_law_681 h1 h2 ?_
  refine G_aload_n dL_law_682 rfl ?_
  refine G_iload_n dL_law_683 rfl ?_
  refine G_const dL_law_684 ?_
  refine G_iadd dL_law_685 ?_
  refine G_sld rfl dL_law_686 h3 h2 ?_
  refine G_aload_n dL_law_687 rfl ?_
  refine G_iload_n dL_law_688 rfl ?_
  refine G_const dL_law_689 ?_
  refine G_iadd dL_law_690 ?_
  refine G_sld rfl dL_law_691 h4 h2 ?_
  refine G_aload_n dL_law_692 rfl ?_
  refine G_iload_n dL_law_693 rfl ?_
  refine G_const dL_law_694 ?_
  refine G_iadd dL_law_695 ?_
  refine G_sld rfl dL_law_696 h5 h2 ?_
  exact G_VI (as := [vI (Γ.2.2.2.2.2.2 ((a3 + 1)).toNat).toInt, vI (Γ.2.2.2.2.2.2 ((a3 + 2)).toNat).toInt, vI (Γ.2.2.2.2.2.2 ((a3 + 3)).toNat).toInt, vI (Γ.2.2.2.2.2.2 ((a3 + 4)).toNat).toInt]) (st := [vI s0]) n0_X7_likely dL_law_697 ml_RL_108 mc_X7_likely rfl ⟨by decide, h6, Nat.le_of_ble_eq_true rfl⟩ h7 ⟨_, _, rfl⟩ c8 (fun z u hq => kq z u hq)
theorem k_L_law_724 {Γ : Gm} {Ret : Option Value → Wd → Prop} {kc ks : Nat} {a3 s0 : Int} {p1 p2 : Nat} {w : Wd} {Q : Int → Wd → Prop} (c7 : SpI Γ m_X7_year [vR p2, vI (Γ.2.2.2.2.2.2 ((a3 + 1)).toNat).toInt, vI (Γ.2.2.2.2.2.2 ((a3 + 2)).toNat).toInt, vI (Γ.2.2.2.2.2.2 ((a3 + 3)).toNat).toInt] w Q) (kq : ∀ (z : Int) (u : Wd), Q z u → G Γ m_L_law Ret kc ks 743 [some (vR 999), some (vR p1), some (vR p2), some (vI a3)] [vI z, vI s0] u) (h1 : (0 : Int) ≤ (a3 + 1) ∧ (a3 + 1) < (Γ.2.2.2.2.2.1 : Int) := by omega) (h2 : Γ.2.2.2.2.2.1 < 2147483648 := by omega) (h3 : (0 : Int) ≤ (a3 + 2) ∧ (a3 + 2) < (Γ.2.2.2.2.2.1 : Int) := by omega) (h4 : (0 : Int) ≤ (a3 + 3) ∧ (a3 + 3) < (Γ.2.2.2.2.2.1 : Int) := by omega) (h5 : kc + m_X7_year.2.2.2.2.cells ≤ m_L_law.2.2.2.2.cells ∧ ks + m_X7_year.2.2.2.2.slots ≤ m_L_law.2.2.2.2.slots := by decide) (h6 : sh w p2 = some (.inr 7) := by assumption) : G Γ m_L_law Ret kc ks 724 [some (vR 999), some (vR p1), some (vR p2), some (vI a3)] [vI s0] w := by
  refine G_aload_n dL_law_724 rfl ?_
  refine G_aload_n dL_law_725 rfl ?_
  refine G_iload_n dL_law_726 rfl ?_
  refine G_const dL_law_727 ?_
  refine G_iadd dL_law_728 ?_
  refine G_sld rfl dL_law_729 h1 h2 ?_
  refine G_aload_n dL_law_730 rfl ?_
  refine G_iload_n dL_law_731 rfl ?_
  refine G_const dL_law_732 ?_
  refine G_iadd dL_law_733 ?_
  refine G_sld rfl dL_law_734 h3 h2 ?_
  refine G_aload_n dL_law_735 rfl ?_
  refine G_iload_n dL_law_736 rfl ?_
  refine G_const dL_law_737 ?_
  refine G_iadd dL_law_738 ?_
  refine G_sld rfl dL_law_739 h4 h2 ?_
  exact G_VI (as := [vI (Γ.2.2.2.2.2.2 ((a3 + 1)).toNat).toInt, vI (Γ.2.2.2.2.2.2 ((a3 + 2)).toNat).toInt, vI (Γ.2.2.2.2.2.2 ((a3 + 3)).toNat).toInt]) (st := [vI s0]) n0_X7_year dL_law_740 ml_RL_113 mc_X7_year rfl ⟨by decide, h5, Nat.le_of_ble_eq_true rfl⟩ h6 ⟨_, _, rfl⟩ c7 (fun z u hq => kq z u hq)
theorem k_L_law_752 {Γ : Gm} {Ret : Option Value → Wd → Prop} {kc ks : Nat} {a3 s0 : Int} {p1 p2 : Nat} {w : Wd} {Q : Int → Wd → Prop} (c3 : SpI Γ m_X7_keep [vR p2] w Q) (kq : ∀ (z : Int) (u : Wd), Q z u → G Γ m_L_law Ret kc ks 756 [some (vR 999), some (vR p1), some (vR p2), some (vI a3)] [vI z, vI s0] u) (h1 : kc + m_X7_keep.2.2.2.2.cells ≤ m_L_law.2.2.2.2.cells ∧ ks + m_X7_keep.2.2.2.2.slots ≤ m_L_law.2.2.2.2.slots := by decide) (h2 : sh w p2 = some (.inr 7) := by assumption) : G Γ m_L_law Ret kc ks 752 [some (vR 999), some (vR p1), some (vR p2), some (vI a3)] [vI s0] w := by
  refine G_aload_n dL_law_752 rfl ?_
  exact G_VI (as := []) (st := [vI s0]) n0_X7_keep dL_law_753 ml_RL_117 mc_X7_keep rfl ⟨by decide, h1, Nat.le_of_ble_eq_true rfl⟩ h2 ⟨_, _, rfl⟩ c3 (fun z u hq => kq z u hq)
theorem k_L_law_765 {Γ : Gm} {Ret : Option Value → Wd → Prop} {kc ks : Nat} {a3 s0 : Int} {p1 p2 : Nat} {w : Wd} {Q : Int → Wd → Prop} (c3 : SpI Γ m_X7_back [vR p2] w Q) (kq : ∀ (z : Int) (u : Wd), Q z u → G Γ m_L_law Ret kc ks 769 [some (vR 999), some (vR p1), some (vR p2), some (vI a3)] [vI z, vI s0] u) (h1 : kc + m_X7_back.2.2.2.2.cells ≤ m_L_law.2.2.2.2.cells ∧ ks + m_X7_back.2.2.2.2.slots ≤ m_L_law.2.2.2.2.slots := by decide) (h2 : sh w p2 = some (.inr 7) := by assumption) : G Γ m_L_law Ret kc ks 765 [some (vR 999), some (vR p1), some (vR p2), some (vI a3)] [vI s0] w := by
  refine G_aload_n dL_law_765 rfl ?_
  exact G_VI (as := []) (st := [vI s0]) n0_X7_back dL_law_766 ml_RL_121 mc_X7_back rfl ⟨by decide, h1, Nat.le_of_ble_eq_true rfl⟩ h2 ⟨_, _, rfl⟩ c3 (fun z u hq => kq z u hq)
theorem k_L_law_783 {Γ : Gm} {Ret : Option Value → Wd → Prop} {kc ks : Nat} {a3 s0 : Int} {p1 p2 : Nat} {w : Wd} {Q : Int → Wd → Prop} (c5 : SpI Γ m_X7_count [vR p2, vI (Γ.2.2.2.2.2.2 ((a3 + 1)).toNat).toInt] w Q) (kq : ∀ (z : Int) (u : Wd), Q z u → G Γ m_L_law Ret kc ks 792 [some (vR 999), some (vR p1), some (vR p2), some (vI a3)] [vI z, vI s0] u) (h1 : (0 : Int) ≤ (a3 + 1) ∧ (a3 + 1) < (Γ.2.2.2.2.2.1 : Int) := by omega) (h2 : Γ.2.2.2.2.2.1 < 2147483648 := by omega) (h3 : kc + m_X7_count.2.2.2.2.cells ≤ m_L_law.2.2.2.2.cells ∧ ks + m_X7_count.2.2.2.2.slots ≤ m_L_law.2.2.2.2.slots := by decide) (h4 : sh w p2 = some (.inr 7) := by assumption) : G Γ m_L_law Ret kc ks 783 [some (vR 999), some (vR p1), some (vR p2), some (vI a3)] [vI s0] w := by
  refine G_aload_n dL_law_783 rfl ?_
  refine G_aload_n dL_law_784 rfl ?_
  refine G_iload_n dL_law_785 rfl ?_
  refine G_const dL_law_786 ?_
  refine G_iadd dL_law_787 ?_
  refine G_sld rfl dL_law_788 h1 h2 ?_
  exact G_VI (as := [vI (Γ.2.2.2.2.2.2 ((a3 + 1)).toNat).toInt]) (st := [vI s0]) n0_X7_count dL_law_789 ml_RL_125 mc_X7_count rfl ⟨by decide, h3, Nat.le_of_ble_eq_true rfl⟩ h4 ⟨_, _, rfl⟩ c5 (fun z u hq => kq z u hq)
theorem k_L_law_174 {Γ : Gm} {Ret : Option Value → Wd → Prop} {kc ks : Nat} {a3 s0 s1 : Int} {p1 p2 : Nat} {w : Wd} (kt : s0 = s1 → G Γ m_L_law Ret kc ks 797 [some (vR 999), some (vR p1), some (vR p2), some (vI a3)] [] w) (kf : ¬ (s0 = s1) → G Γ m_L_law Ret kc ks 177 [some (vR 999), some (vR p1), some (vR p2), some (vI a3)] [] w) (h1 : sm s0 := by omega) (h2 : sm s1 := by omega) : G Γ m_L_law Ret kc ks 174 [some (vR 999), some (vR p1), some (vR p2), some (vI a3)] [vI s1, vI s0] w := by
  exact G_icmp_eq dL_law_174 (by decide) h1 h2 kt kf
theorem k_L_law_187 {Γ : Gm} {Ret : Option Value → Wd → Prop} {kc ks : Nat} {a3 s0 s1 : Int} {p1 p2 : Nat} {w : Wd} (kt : s0 = s1 → G Γ m_L_law Ret kc ks 797 [some (vR 999), some (vR p1), some (vR p2), some (vI a3)] [] w) (kf : ¬ (s0 = s1) → G Γ m_L_law Ret kc ks 190 [some (vR 999), some (vR p1), some (vR p2), some (vI a3)] [] w) (h1 : sm s0 := by omega) (h2 : sm s1 := by omega) : G Γ m_L_law Ret kc ks 187 [some (vR 999), some (vR p1), some (vR p2), some (vI a3)] [vI s1, vI s0] w := by
  exact G_icmp_eq dL_law_187 (by decide) h1 h2 kt kf
theorem k_L_law_200 {Γ : Gm} {Ret : Option Value → Wd → Prop} {kc ks : Nat} {a3 s0 s1 : Int} {p1 p2 : Nat} {w : Wd} (kt : s0 = s1 → G Γ m_L_law Ret kc ks 797 [some (vR 999), some (vR p1), some (vR p2), some (vI a3)] [] w) (kf : ¬ (s0 = s1) → G Γ m_L_law Ret kc ks 203 [some (vR 999), some (vR p1), some (vR p2), some (vI a3)] [] w) (h1 : sm s0 := by omega) (h2 : sm s1 := by omega) : G Γ m_L_law Ret kc ks 200 [some (vR 999), some (vR p1), some (vR p2), some (vI a3)] [vI s1, vI s0] w := by
  exact G_icmp_eq dL_law_200 (by decide) h1 h2 kt kf
theorem k_L_law_213 {Γ : Gm} {Ret : Option Value → Wd → Prop} {kc ks : Nat} {a3 s0 s1 : Int} {p1 p2 : Nat} {w : Wd} (kt : s0 = s1 → G Γ m_L_law Ret kc ks 797 [some (vR 999), some (vR p1), some (vR p2), some (vI a3)] [] w) (kf : ¬ (s0 = s1) → G Γ m_L_law Ret kc ks 216 [some (vR 999), some (vR p1), some (vR p2), some (vI a3)] [] w) (h1 : sm s0 := by omega) (h2 : sm s1 := by omega) : G Γ m_L_law Ret kc ks 213 [some (vR 999), some (vR p1), some (vR p2), some (vI a3)] [vI s1, vI s0] w := by
  exact G_icmp_eq dL_law_213 (by decide) h1 h2 kt kf
theorem k_L_law_246 {Γ : Gm} {Ret : Option Value → Wd → Prop} {kc ks : Nat} {a3 s0 s1 : Int} {p1 p2 : Nat} {w : Wd} (kt : s0 = s1 → G Γ m_L_law Ret kc ks 797 [some (vR 999), some (vR p1), some (vR p2), some (vI a3)] [] w) (kf : ¬ (s0 = s1) → G Γ m_L_law Ret kc ks 249 [some (vR 999), some (vR p1), some (vR p2), some (vI a3)] [] w) (h1 : sm s0 := by omega) (h2 : sm s1 := by omega) : G Γ m_L_law Ret kc ks 246 [some (vR 999), some (vR p1), some (vR p2), some (vI a3)] [vI s1, vI s0] w := by
  exact G_icmp_eq dL_law_246 (by decide) h1 h2 kt kf
theorem k_L_law_279 {Γ : Gm} {Ret : Option Value → Wd → Prop} {kc ks : Nat} {a3 s0 s1 : Int} {p1 p2 : Nat} {w : Wd} (kt : s0 = s1 → G Γ m_L_law Ret kc ks 797 [some (vR 999), some (vR p1), some (vR p2), some (vI a3)] [] w) (kf : ¬ (s0 = s1) → G Γ m_L_law Ret kc ks 282 [some (vR 999), some (vR p1), some (vR p2), some (vI a3)] [] w) (h1 : sm s0 := by omega) (h2 : sm s1 := by omega) : G Γ m_L_law Ret kc ks 279 [some (vR 999), some (vR p1), some (vR p2), some (vI a3)] [vI s1, vI s0] w := by
  exact G_icmp_eq dL_law_279 (by decide) h1 h2 kt kf
theorem k_L_law_302 {Γ : Gm} {Ret : Option Value → Wd → Prop} {kc ks : Nat} {a3 s0 s1 : Int} {p1 p2 : Nat} {w : Wd} (kt : s0 = s1 → G Γ m_L_law Ret kc ks 797 [some (vR 999), some (vR p1), some (vR p2), some (vI a3)] [] w) (kf : ¬ (s0 = s1) → G Γ m_L_law Ret kc ks 305 [some (vR 999), some (vR p1), some (vR p2), some (vI a3)] [] w) (h1 : sm s0 := by omega) (h2 : sm s1 := by omega) : G Γ m_L_law Ret kc ks 302 [some (vR 999), some (vR p1), some (vR p2), some (vI a3)] [vI s1, vI s0] w := by
  exact G_icmp_eq dL_law_302 (by decide) h1 h2 kt kf
theorem k_L_law_325 {Γ : Gm} {Ret : Option Value → Wd → Prop} {kc ks : Nat} {a3 s0 s1 : Int} {p1 p2 : Nat} {w : Wd} (kt : s0 = s1 → G Γ m_L_law Ret kc ks 797 [some (vR 999), some (vR p1), some (vR p2), some (vI a3)] [] w) (kf : ¬ (s0 = s1) → G Γ m_L_law Ret kc ks 328 [some (vR 999), some (vR p1), some (vR p2), some (vI a3)] [] w) (h1 : sm s0 := by omega) (h2 : sm s1 := by omega) : G Γ m_L_law Ret kc ks 325 [some (vR 999), some (vR p1), some (vR p2), some (vI a3)] [vI s1, vI s0] w := by
  exact G_icmp_eq dL_law_325 (by decide) h1 h2 kt kf
theorem k_L_law_358 {Γ : Gm} {Ret : Option Value → Wd → Prop} {kc ks : Nat} {a3 s0 s1 : Int} {p1 p2 : Nat} {w : Wd} (kt : s0 = s1 → G Γ m_L_law Ret kc ks 797 [some (vR 999), some (vR p1), some (vR p2), some (vI a3)] [] w) (kf : ¬ (s0 = s1) → G Γ m_L_law Ret kc ks 361 [some (vR 999), some (vR p1), some (vR p2), some (vI a3)] [] w) (h1 : sm s0 := by omega) (h2 : sm s1 := by omega) : G Γ m_L_law Ret kc ks 358 [some (vR 999), some (vR p1), some (vR p2), some (vI a3)] [vI s1, vI s0] w := by
  exact G_icmp_eq dL_law_358 (by decide) h1 h2 kt kf
theorem k_L_law_381 {Γ : Gm} {Ret : Option Value → Wd → Prop} {kc ks : Nat} {a3 s0 s1 : Int} {p1 p2 : Nat} {w : Wd} (kt : s0 = s1 → G Γ m_L_law Ret kc ks 797 [some (vR 999), some (vR p1), some (vR p2), some (vI a3)] [] w) (kf : ¬ (s0 = s1) → G Γ m_L_law Ret kc ks 384 [some (vR 999), some (vR p1), some (vR p2), some (vI a3)] [] w) (h1 : sm s0 := by omega) (h2 : sm s1 := by omega) : G Γ m_L_law Ret kc ks 381 [some (vR 999), some (vR p1), some (vR p2), some (vI a3)] [vI s1, vI s0] w := by
  exact G_icmp_eq dL_law_381 (by decide) h1 h2 kt kf
theorem k_L_law_404 {Γ : Gm} {Ret : Option Value → Wd → Prop} {kc ks : Nat} {a3 s0 s1 : Int} {p1 p2 : Nat} {w : Wd} (kt : s0 = s1 → G Γ m_L_law Ret kc ks 797 [some (vR 999), some (vR p1), some (vR p2), some (vI a3)] [] w) (kf : ¬ (s0 = s1) → G Γ m_L_law Ret kc ks 407 [some (vR 999), some (vR p1), some (vR p2), some (vI a3)] [] w) (h1 : sm s0 := by omega) (h2 : sm s1 := by omega) : G Γ m_L_law Ret kc ks 404 [some (vR 999), some (vR p1), some (vR p2), some (vI a3)] [vI s1, vI s0] w := by
  exact G_icmp_eq dL_law_404 (by decide) h1 h2 kt kf
theorem k_L_law_417 {Γ : Gm} {Ret : Option Value → Wd → Prop} {kc ks : Nat} {a3 s0 s1 : Int} {p1 p2 : Nat} {w : Wd} (kt : s0 = s1 → G Γ m_L_law Ret kc ks 797 [some (vR 999), some (vR p1), some (vR p2), some (vI a3)] [] w) (kf : ¬ (s0 = s1) → G Γ m_L_law Ret kc ks 420 [some (vR 999), some (vR p1), some (vR p2), some (vI a3)] [] w) (h1 : sm s0 := by omega) (h2 : sm s1 := by omega) : G Γ m_L_law Ret kc ks 417 [some (vR 999), some (vR p1), some (vR p2), some (vI a3)] [vI s1, vI s0] w := by
  exact G_icmp_eq dL_law_417 (by decide) h1 h2 kt kf
theorem k_L_law_440 {Γ : Gm} {Ret : Option Value → Wd → Prop} {kc ks : Nat} {a3 s0 s1 : Int} {p1 p2 : Nat} {w : Wd} (kt : s0 = s1 → G Γ m_L_law Ret kc ks 797 [some (vR 999), some (vR p1), some (vR p2), some (vI a3)] [] w) (kf : ¬ (s0 = s1) → G Γ m_L_law Ret kc ks 443 [some (vR 999), some (vR p1), some (vR p2), some (vI a3)] [] w) (h1 : sm s0 := by omega) (h2 : sm s1 := by omega) : G Γ m_L_law Ret kc ks 440 [some (vR 999), some (vR p1), some (vR p2), some (vI a3)] [vI s1, vI s0] w := by
  exact G_icmp_eq dL_law_440 (by decide) h1 h2 kt kf
theorem k_L_law_463 {Γ : Gm} {Ret : Option Value → Wd → Prop} {kc ks : Nat} {a3 s0 s1 : Int} {p1 p2 : Nat} {w : Wd} (kt : s0 = s1 → G Γ m_L_law Ret kc ks 797 [some (vR 999), some (vR p1), some (vR p2), some (vI a3)] [] w) (kf : ¬ (s0 = s1) → G Γ m_L_law Ret kc ks 466 [some (vR 999), some (vR p1), some (vR p2), some (vI a3)] [] w) (h1 : sm s0 := by omega) (h2 : sm s1 := by omega) : G Γ m_L_law Ret kc ks 463 [some (vR 999), some (vR p1), some (vR p2), some (vI a3)] [vI s1, vI s0] w := by
  exact G_icmp_eq dL_law_463 (by decide) h1 h2 kt kf
theorem k_L_law_496 {Γ : Gm} {Ret : Option Value → Wd → Prop} {kc ks : Nat} {a3 s0 s1 : Int} {p1 p2 : Nat} {w : Wd} (kt : s0 = s1 → G Γ m_L_law Ret kc ks 797 [some (vR 999), some (vR p1), some (vR p2), some (vI a3)] [] w) (kf : ¬ (s0 = s1) → G Γ m_L_law Ret kc ks 499 [some (vR 999), some (vR p1), some (vR p2), some (vI a3)] [] w) (h1 : sm s0 := by omega) (h2 : sm s1 := by omega) : G Γ m_L_law Ret kc ks 496 [some (vR 999), some (vR p1), some (vR p2), some (vI a3)] [vI s1, vI s0] w := by
  exact G_icmp_eq dL_law_496 (by decide) h1 h2 kt kf
theorem k_L_law_509 {Γ : Gm} {Ret : Option Value → Wd → Prop} {kc ks : Nat} {a3 s0 s1 : Int} {p1 p2 : Nat} {w : Wd} (kt : s0 = s1 → G Γ m_L_law Ret kc ks 797 [some (vR 999), some (vR p1), some (vR p2), some (vI a3)] [] w) (kf : ¬ (s0 = s1) → G Γ m_L_law Ret kc ks 512 [some (vR 999), some (vR p1), some (vR p2), some (vI a3)] [] w) (h1 : sm s0 := by omega) (h2 : sm s1 := by omega) : G Γ m_L_law Ret kc ks 509 [some (vR 999), some (vR p1), some (vR p2), some (vI a3)] [vI s1, vI s0] w := by
  exact G_icmp_eq dL_law_509 (by decide) h1 h2 kt kf
theorem k_L_law_522 {Γ : Gm} {Ret : Option Value → Wd → Prop} {kc ks : Nat} {a3 s0 s1 : Int} {p1 p2 : Nat} {w : Wd} (kt : s0 = s1 → G Γ m_L_law Ret kc ks 797 [some (vR 999), some (vR p1), some (vR p2), some (vI a3)] [] w) (kf : ¬ (s0 = s1) → G Γ m_L_law Ret kc ks 525 [some (vR 999), some (vR p1), some (vR p2), some (vI a3)] [] w) (h1 : sm s0 := by omega) (h2 : sm s1 := by omega) : G Γ m_L_law Ret kc ks 522 [some (vR 999), some (vR p1), some (vR p2), some (vI a3)] [vI s1, vI s0] w := by
  exact G_icmp_eq dL_law_522 (by decide) h1 h2 kt kf
theorem k_L_law_555 {Γ : Gm} {Ret : Option Value → Wd → Prop} {kc ks : Nat} {a3 s0 s1 : Int} {p1 p2 : Nat} {w : Wd} (kt : s0 = s1 → G Γ m_L_law Ret kc ks 797 [some (vR 999), some (vR p1), some (vR p2), some (vI a3)] [] w) (kf : ¬ (s0 = s1) → G Γ m_L_law Ret kc ks 558 [some (vR 999), some (vR p1), some (vR p2), some (vI a3)] [] w) (h1 : sm s0 := by omega) (h2 : sm s1 := by omega) : G Γ m_L_law Ret kc ks 555 [some (vR 999), some (vR p1), some (vR p2), some (vI a3)] [vI s1, vI s0] w := by
  exact G_icmp_eq dL_law_555 (by decide) h1 h2 kt kf
theorem k_L_law_568 {Γ : Gm} {Ret : Option Value → Wd → Prop} {kc ks : Nat} {a3 s0 s1 : Int} {p1 p2 : Nat} {w : Wd} (kt : s0 = s1 → G Γ m_L_law Ret kc ks 797 [some (vR 999), some (vR p1), some (vR p2), some (vI a3)] [] w) (kf : ¬ (s0 = s1) → G Γ m_L_law Ret kc ks 571 [some (vR 999), some (vR p1), some (vR p2), some (vI a3)] [] w) (h1 : sm s0 := by omega) (h2 : sm s1 := by omega) : G Γ m_L_law Ret kc ks 568 [some (vR 999), some (vR p1), some (vR p2), some (vI a3)] [vI s1, vI s0] w := by
  exact G_icmp_eq dL_law_568 (by decide) h1 h2 kt kf
theorem k_L_law_591 {Γ : Gm} {Ret : Option Value → Wd → Prop} {kc ks : Nat} {a3 s0 s1 : Int} {p1 p2 : Nat} {w : Wd} (kt : s0 = s1 → G Γ m_L_law Ret kc ks 797 [some (vR 999), some (vR p1), some (vR p2), some (vI a3)] [] w) (kf : ¬ (s0 = s1) → G Γ m_L_law Ret kc ks 594 [some (vR 999), some (vR p1), some (vR p2), some (vI a3)] [] w) (h1 : sm s0 := by omega) (h2 : sm s1 := by omega) : G Γ m_L_law Ret kc ks 591 [some (vR 999), some (vR p1), some (vR p2), some (vI a3)] [vI s1, vI s0] w := by
  exact G_icmp_eq dL_law_591 (by decide) h1 h2 kt kf
theorem k_L_law_624 {Γ : Gm} {Ret : Option Value → Wd → Prop} {kc ks : Nat} {a3 s0 s1 : Int} {p1 p2 : Nat} {w : Wd} (kt : s0 = s1 → G Γ m_L_law Ret kc ks 797 [some (vR 999), some (vR p1), some (vR p2), some (vI a3)] [] w) (kf : ¬ (s0 = s1) → G Γ m_L_law Ret kc ks 627 [some (vR 999), some (vR p1), some (vR p2), some (vI a3)] [] w) (h1 : sm s0 := by omega) (h2 : sm s1 := by omega) : G Γ m_L_law Ret kc ks 624 [some (vR 999), some (vR p1), some (vR p2), some (vI a3)] [vI s1, vI s0] w := by
  exact G_icmp_eq dL_law_624 (by decide) h1 h2 kt kf
theorem k_L_law_647 {Γ : Gm} {Ret : Option Value → Wd → Prop} {kc ks : Nat} {a3 s0 s1 : Int} {p1 p2 : Nat} {w : Wd} (kt : s0 = s1 → G Γ m_L_law Ret kc ks 797 [some (vR 999), some (vR p1), some (vR p2), some (vI a3)] [] w) (kf : ¬ (s0 = s1) → G Γ m_L_law Ret kc ks 650 [some (vR 999), some (vR p1), some (vR p2), some (vI a3)] [] w) (h1 : sm s0 := by omega) (h2 : sm s1 := by omega) : G Γ m_L_law Ret kc ks 647 [some (vR 999), some (vR p1), some (vR p2), some (vI a3)] [vI s1, vI s0] w := by
  exact G_icmp_eq dL_law_647 (by decide) h1 h2 kt kf
theorem k_L_law_700 {Γ : Gm} {Ret : Option Value → Wd → Prop} {kc ks : Nat} {a3 s0 s1 : Int} {p1 p2 : Nat} {w : Wd} (kt : s0 = s1 → G Γ m_L_law Ret kc ks 797 [some (vR 999), some (vR p1), some (vR p2), some (vI a3)] [] w) (kf : ¬ (s0 = s1) → G Γ m_L_law Ret kc ks 703 [some (vR 999), some (vR p1), some (vR p2), some (vI a3)] [] w) (h1 : sm s0 := by omega) (h2 : sm s1 := by omega) : G Γ m_L_law Ret kc ks 700 [some (vR 999), some (vR p1), some (vR p2), some (vI a3)] [vI s1, vI s0] w := by
  exact G_icmp_eq dL_law_700 (by decide) h1 h2 kt kf
theorem k_L_law_743 {Γ : Gm} {Ret : Option Value → Wd → Prop} {kc ks : Nat} {a3 s0 s1 : Int} {p1 p2 : Nat} {w : Wd} (kt : s0 = s1 → G Γ m_L_law Ret kc ks 797 [some (vR 999), some (vR p1), some (vR p2), some (vI a3)] [] w) (kf : ¬ (s0 = s1) → G Γ m_L_law Ret kc ks 746 [some (vR 999), some (vR p1), some (vR p2), some (vI a3)] [] w) (h1 : sm s0 := by omega) (h2 : sm s1 := by omega) : G Γ m_L_law Ret kc ks 743 [some (vR 999), some (vR p1), some (vR p2), some (vI a3)] [vI s1, vI s0] w := by
  exact G_icmp_eq dL_law_743 (by decide) h1 h2 kt kf
theorem k_L_law_756 {Γ : Gm} {Ret : Option Value → Wd → Prop} {kc ks : Nat} {a3 s0 s1 : Int} {p1 p2 : Nat} {w : Wd} (kt : s0 = s1 → G Γ m_L_law Ret kc ks 797 [some (vR 999), some (vR p1), some (vR p2), some (vI a3)] [] w) (kf : ¬ (s0 = s1) → G Γ m_L_law Ret kc ks 759 [some (vR 999), some (vR p1), some (vR p2), some (vI a3)] [] w) (h1 : sm s0 := by omega) (h2 : sm s1 := by omega) : G Γ m_L_law Ret kc ks 756 [some (vR 999), some (vR p1), some (vR p2), some (vI a3)] [vI s1, vI s0] w := by
  exact G_icmp_eq dL_law_756 (by decide) h1 h2 kt kf
theorem k_L_law_769 {Γ : Gm} {Ret : Option Value → Wd → Prop} {kc ks : Nat} {a3 s0 s1 : Int} {p1 p2 : Nat} {w : Wd} (kt : s0 = s1 → G Γ m_L_law Ret kc ks 797 [some (vR 999), some (vR p1), some (vR p2), some (vI a3)] [] w) (kf : ¬ (s0 = s1) → G Γ m_L_law Ret kc ks 772 [some (vR 999), some (vR p1), some (vR p2), some (vI a3)] [] w) (h1 : sm s0 := by omega) (h2 : sm s1 := by omega) : G Γ m_L_law Ret kc ks 769 [some (vR 999), some (vR p1), some (vR p2), some (vI a3)] [vI s1, vI s0] w := by
  exact G_icmp_eq dL_law_769 (by decide) h1 h2 kt kf
theorem k_L_law_792 {Γ : Gm} {Ret : Option Value → Wd → Prop} {kc ks : Nat} {a3 s0 s1 : Int} {p1 p2 : Nat} {w : Wd} (kt : s0 = s1 → G Γ m_L_law Ret kc ks 797 [some (vR 999), some (vR p1), some (vR p2), some (vI a3)] [] w) (kf : ¬ (s0 = s1) → G Γ m_L_law Ret kc ks 795 [some (vR 999), some (vR p1), some (vR p2), some (vI a3)] [] w) (h1 : sm s0 := by omega) (h2 : sm s1 := by omega) : G Γ m_L_law Ret kc ks 792 [some (vR 999), some (vR p1), some (vR p2), some (vI a3)] [vI s1, vI s0] w := by
  exact G_icmp_eq dL_law_792 (by decide) h1 h2 kt kf
theorem k_L_law_177 {Γ : Gm} {Ret : Option Value → Wd → Prop} {kc ks : Nat} {o1 o2 o3 : Option Value} {w : Wd} (kr : Ret (some (vI 0)) w) (h1 : kc = m_L_law.2.2.2.2.cells ∧ ks ≤ m_L_law.2.2.2.2.slots := by decide) : G Γ m_L_law Ret kc ks 177 [some (vR 999), o1, o2, o3] [] w := by
  refine G_const dL_law_177 ?_
  exact G_reti dL_law_178 (Or.inl rfl) h1 kr
theorem k_L_law_190 {Γ : Gm} {Ret : Option Value → Wd → Prop} {kc ks : Nat} {o1 o2 o3 : Option Value} {w : Wd} (kr : Ret (some (vI 0)) w) (h1 : kc = m_L_law.2.2.2.2.cells ∧ ks ≤ m_L_law.2.2.2.2.slots := by decide) : G Γ m_L_law Ret kc ks 190 [some (vR 999), o1, o2, o3] [] w := by
  refine G_const dL_law_190 ?_
  exact G_reti dL_law_191 (Or.inl rfl) h1 kr
theorem k_L_law_203 {Γ : Gm} {Ret : Option Value → Wd → Prop} {kc ks : Nat} {o1 o2 o3 : Option Value} {w : Wd} (kr : Ret (some (vI 0)) w) (h1 : kc = m_L_law.2.2.2.2.cells ∧ ks ≤ m_L_law.2.2.2.2.slots := by decide) : G Γ m_L_law Ret kc ks 203 [some (vR 999), o1, o2, o3] [] w := by
  refine G_const dL_law_203 ?_
  exact G_reti dL_law_204 (Or.inl rfl) h1 kr
theorem k_L_law_216 {Γ : Gm} {Ret : Option Value → Wd → Prop} {kc ks : Nat} {o1 o2 o3 : Option Value} {w : Wd} (kr : Ret (some (vI 0)) w) (h1 : kc = m_L_law.2.2.2.2.cells ∧ ks ≤ m_L_law.2.2.2.2.slots := by decide) : G Γ m_L_law Ret kc ks 216 [some (vR 999), o1, o2, o3] [] w := by
  refine G_const dL_law_216 ?_
  exact G_reti dL_law_217 (Or.inl rfl) h1 kr
theorem k_L_law_249 {Γ : Gm} {Ret : Option Value → Wd → Prop} {kc ks : Nat} {o1 o2 o3 : Option Value} {w : Wd} (kr : Ret (some (vI 0)) w) (h1 : kc = m_L_law.2.2.2.2.cells ∧ ks ≤ m_L_law.2.2.2.2.slots := by decide) : G Γ m_L_law Ret kc ks 249 [some (vR 999), o1, o2, o3] [] w := by
  refine G_const dL_law_249 ?_
  exact G_reti dL_law_250 (Or.inl rfl) h1 kr
theorem k_L_law_282 {Γ : Gm} {Ret : Option Value → Wd → Prop} {kc ks : Nat} {o1 o2 o3 : Option Value} {w : Wd} (kr : Ret (some (vI 0)) w) (h1 : kc = m_L_law.2.2.2.2.cells ∧ ks ≤ m_L_law.2.2.2.2.slots := by decide) : G Γ m_L_law Ret kc ks 282 [some (vR 999), o1, o2, o3] [] w := by
  refine G_const dL_law_282 ?_
  exact G_reti dL_law_283 (Or.inl rfl) h1 kr
theorem k_L_law_305 {Γ : Gm} {Ret : Option Value → Wd → Prop} {kc ks : Nat} {o1 o2 o3 : Option Value} {w : Wd} (kr : Ret (some (vI 0)) w) (h1 : kc = m_L_law.2.2.2.2.cells ∧ ks ≤ m_L_law.2.2.2.2.slots := by decide) : G Γ m_L_law Ret kc ks 305 [some (vR 999), o1, o2, o3] [] w := by
  refine G_const dL_law_305 ?_
  exact G_reti dL_law_306 (Or.inl rfl) h1 kr
theorem k_L_law_328 {Γ : Gm} {Ret : Option Value → Wd → Prop} {kc ks : Nat} {o1 o2 o3 : Option Value} {w : Wd} (kr : Ret (some (vI 0)) w) (h1 : kc = m_L_law.2.2.2.2.cells ∧ ks ≤ m_L_law.2.2.2.2.slots := by decide) : G Γ m_L_law Ret kc ks 328 [some (vR 999), o1, o2, o3] [] w := by
  refine G_const dL_law_328 ?_
  exact G_reti dL_law_329 (Or.inl rfl) h1 kr
theorem k_L_law_361 {Γ : Gm} {Ret : Option Value → Wd → Prop} {kc ks : Nat} {o1 o2 o3 : Option Value} {w : Wd} (kr : Ret (some (vI 0)) w) (h1 : kc = m_L_law.2.2.2.2.cells ∧ ks ≤ m_L_law.2.2.2.2.slots := by decide) : G Γ m_L_law Ret kc ks 361 [some (vR 999), o1, o2, o3] [] w := by
  refine G_const dL_law_361 ?_
  exact G_reti dL_law_362 (Or.inl rfl) h1 kr
theorem k_L_law_384 {Γ : Gm} {Ret : Option Value → Wd → Prop} {kc ks : Nat} {o1 o2 o3 : Option Value} {w : Wd} (kr : Ret (some (vI 0)) w) (h1 : kc = m_L_law.2.2.2.2.cells ∧ ks ≤ m_L_law.2.2.2.2.slots := by decide) : G Γ m_L_law Ret kc ks 384 [some (vR 999), o1, o2, o3] [] w := by
  refine G_const dL_law_384 ?_
  exact G_reti dL_law_385 (Or.inl rfl) h1 kr
theorem k_L_law_407 {Γ : Gm} {Ret : Option Value → Wd → Prop} {kc ks : Nat} {o1 o2 o3 : Option Value} {w : Wd} (kr : Ret (some (vI 0)) w) (h1 : kc = m_L_law.2.2.2.2.cells ∧ ks ≤ m_L_law.2.2.2.2.slots := by decide) : G Γ m_L_law Ret kc ks 407 [some (vR 999), o1, o2, o3] [] w := by
  refine G_const dL_law_407 ?_
  exact G_reti dL_law_408 (Or.inl rfl) h1 kr
theorem k_L_law_420 {Γ : Gm} {Ret : Option Value → Wd → Prop} {kc ks : Nat} {o1 o2 o3 : Option Value} {w : Wd} (kr : Ret (some (vI 0)) w) (h1 : kc = m_L_law.2.2.2.2.cells ∧ ks ≤ m_L_law.2.2.2.2.slots := by decide) : G Γ m_L_law Ret kc ks 420 [some (vR 999), o1, o2, o3] [] w := by
  refine G_const dL_law_420 ?_
  exact G_reti dL_law_421 (Or.inl rfl) h1 kr
theorem k_L_law_443 {Γ : Gm} {Ret : Option Value → Wd → Prop} {kc ks : Nat} {o1 o2 o3 : Option Value} {w : Wd} (kr : Ret (some (vI 0)) w) (h1 : kc = m_L_law.2.2.2.2.cells ∧ ks ≤ m_L_law.2.2.2.2.slots := by decide) : G Γ m_L_law Ret kc ks 443 [some (vR 999), o1, o2, o3] [] w := by
  refine G_const dL_law_443 ?_
  exact G_reti dL_law_444 (Or.inl rfl) h1 kr
theorem k_L_law_466 {Γ : Gm} {Ret : Option Value → Wd → Prop} {kc ks : Nat} {o1 o2 o3 : Option Value} {w : Wd} (kr : Ret (some (vI 0)) w) (h1 : kc = m_L_law.2.2.2.2.cells ∧ ks ≤ m_L_law.2.2.2.2.slots := by decide) : G Γ m_L_law Ret kc ks 466 [some (vR 999), o1, o2, o3] [] w := by
  refine G_const dL_law_466 ?_
  exact G_reti dL_law_467 (Or.inl rfl) h1 kr
theorem k_L_law_499 {Γ : Gm} {Ret : Option Value → Wd → Prop} {kc ks : Nat} {o1 o2 o3 : Option Value} {w : Wd} (kr : Ret (some (vI 0)) w) (h1 : kc = m_L_law.2.2.2.2.cells ∧ ks ≤ m_L_law.2.2.2.2.slots := by decide) : G Γ m_L_law Ret kc ks 499 [some (vR 999), o1, o2, o3] [] w := by
  refine G_const dL_law_499 ?_
  exact G_reti dL_law_500 (Or.inl rfl) h1 kr
theorem k_L_law_512 {Γ : Gm} {Ret : Option Value → Wd → Prop} {kc ks : Nat} {o1 o2 o3 : Option Value} {w : Wd} (kr : Ret (some (vI 0)) w) (h1 : kc = m_L_law.2.2.2.2.cells ∧ ks ≤ m_L_law.2.2.2.2.slots := by decide) : G Γ m_L_law Ret kc ks 512 [some (vR 999), o1, o2, o3] [] w := by
  refine G_const dL_law_512 ?_
  exact G_reti dL_law_513 (Or.inl rfl) h1 kr
theorem k_L_law_525 {Γ : Gm} {Ret : Option Value → Wd → Prop} {kc ks : Nat} {o1 o2 o3 : Option Value} {w : Wd} (kr : Ret (some (vI 0)) w) (h1 : kc = m_L_law.2.2.2.2.cells ∧ ks ≤ m_L_law.2.2.2.2.slots := by decide) : G Γ m_L_law Ret kc ks 525 [some (vR 999), o1, o2, o3] [] w := by
  refine G_const dL_law_525 ?_
  exact G_reti dL_law_526 (Or.inl rfl) h1 kr
theorem k_L_law_558 {Γ : Gm} {Ret : Option Value → Wd → Prop} {kc ks : Nat} {o1 o2 o3 : Option Value} {w : Wd} (kr : Ret (some (vI 0)) w) (h1 : kc = m_L_law.2.2.2.2.cells ∧ ks ≤ m_L_law.2.2.2.2.slots := by decide) : G Γ m_L_law Ret kc ks 558 [some (vR 999), o1, o2, o3] [] w := by
  refine G_const dL_law_558 ?_
  exact G_reti dL_law_559 (Or.inl rfl) h1 kr
theorem k_L_law_571 {Γ : Gm} {Ret : Option Value → Wd → Prop} {kc ks : Nat} {o1 o2 o3 : Option Value} {w : Wd} (kr : Ret (some (vI 0)) w) (h1 : kc = m_L_law.2.2.2.2.cells ∧ ks ≤ m_L_law.2.2.2.2.slots := by decide) : G Γ m_L_law Ret kc ks 571 [some (vR 999), o1, o2, o3] [] w := by
  refine G_const dL_law_571 ?_
  exact G_reti dL_law_572 (Or.inl rfl) h1 kr
theorem k_L_law_594 {Γ : Gm} {Ret : Option Value → Wd → Prop} {kc ks : Nat} {o1 o2 o3 : Option Value} {w : Wd} (kr : Ret (some (vI 0)) w) (h1 : kc = m_L_law.2.2.2.2.cells ∧ ks ≤ m_L_law.2.2.2.2.slots := by decide) : G Γ m_L_law Ret kc ks 594 [some (vR 999), o1, o2, o3] [] w := by
  refine G_const dL_law_594 ?_
  exact G_reti dL_law_595 (Or.inl rfl) h1 kr
theorem k_L_law_627 {Γ : Gm} {Ret : Option Value → Wd → Prop} {kc ks : Nat} {o1 o2 o3 : Option Value} {w : Wd} (kr : Ret (some (vI 0)) w) (h1 : kc = m_L_law.2.2.2.2.cells ∧ ks ≤ m_L_law.2.2.2.2.slots := by decide) : G Γ m_L_law Ret kc ks 627 [some (vR 999), o1, o2, o3] [] w := by
  refine G_const dL_law_627 ?_
  exact G_reti dL_law_628 (Or.inl rfl) h1 kr
theorem k_L_law_650 {Γ : Gm} {Ret : Option Value → Wd → Prop} {kc ks : Nat} {o1 o2 o3 : Option Value} {w : Wd} (kr : Ret (some (vI 0)) w) (h1 : kc = m_L_law.2.2.2.2.cells ∧ ks ≤ m_L_law.2.2.2.2.slots := by decide) : G Γ m_L_law Ret kc ks 650 [some (vR 999), o1, o2, o3] [] w := by
  refine G_const dL_law_650 ?_
  exact G_reti dL_law_651 (Or.inl rfl) h1 kr
theorem k_L_law_703 {Γ : Gm} {Ret : Option Value → Wd → Prop} {kc ks : Nat} {o1 o2 o3 : Option Value} {w : Wd} (kr : Ret (some (vI 0)) w) (h1 : kc = m_L_law.2.2.2.2.cells ∧ ks ≤ m_L_law.2.2.2.2.slots := by decide) : G Γ m_L_law Ret kc ks 703 [some (vR 999), o1, o2, o3] [] w := by
  refine G_const dL_law_703 ?_
  exact G_reti dL_law_704 (Or.inl rfl) h1 kr
theorem k_L_law_746 {Γ : Gm} {Ret : Option Value → Wd → Prop} {kc ks : Nat} {o1 o2 o3 : Option Value} {w : Wd} (kr : Ret (some (vI 0)) w) (h1 : kc = m_L_law.2.2.2.2.cells ∧ ks ≤ m_L_law.2.2.2.2.slots := by decide) : G Γ m_L_law Ret kc ks 746 [some (vR 999), o1, o2, o3] [] w := by
  refine G_const dL_law_746 ?_
  exact G_reti dL_law_747 (Or.inl rfl) h1 kr
theorem k_L_law_759 {Γ : Gm} {Ret : Option Value → Wd → Prop} {kc ks : Nat} {o1 o2 o3 : Option Value} {w : Wd} (kr : Ret (some (vI 0)) w) (h1 : kc = m_L_law.2.2.2.2.cells ∧ ks ≤ m_L_law.2.2.2.2.slots := by decide) : G Γ m_L_law Ret kc ks 759 [some (vR 999), o1, o2, o3] [] w := by
  refine G_const dL_law_759 ?_
  exact G_reti dL_law_760 (Or.inl rfl) h1 kr
theorem k_L_law_772 {Γ : Gm} {Ret : Option Value → Wd → Prop} {kc ks : Nat} {o1 o2 o3 : Option Value} {w : Wd} (kr : Ret (some (vI 0)) w) (h1 : kc = m_L_law.2.2.2.2.cells ∧ ks ≤ m_L_law.2.2.2.2.slots := by decide) : G Γ m_L_law Ret kc ks 772 [some (vR 999), o1, o2, o3] [] w := by
  refine G_const dL_law_772 ?_
  exact G_reti dL_law_773 (Or.inl rfl) h1 kr
theorem k_L_law_795 {Γ : Gm} {Ret : Option Value → Wd → Prop} {kc ks : Nat} {o1 o2 o3 : Option Value} {w : Wd} (kr : Ret (some (vI 0)) w) (h1 : kc = m_L_law.2.2.2.2.cells ∧ ks ≤ m_L_law.2.2.2.2.slots := by decide) : G Γ m_L_law Ret kc ks 795 [some (vR 999), o1, o2, o3] [] w := by
  refine G_const dL_law_795 ?_
  exact G_reti dL_law_796 (Or.inl rfl) h1 kr
