theorem k_X1_init_0 {Γ : Gm} {Ret : Option Value → Wd → Prop} {kc ks : Nat} {p0 : Nat} {w : Wd} (km : G Γ m_X1_init Ret (((kc + 1) + 1) + 1) (((ks + 13) + 13) + 13) 28 [some (vR p0)] [] (stR (nwW (stR (nwW (stR (nwW w) p0 0 (vR w.1))) p0 1 (vR (stR (nwW w) p0 0 (vR w.1)).1))) p0 2 (vR (stR (nwW (stR (nwW w) p0 0 (vR w.1))) p0 1 (vR (stR (nwW w) p0 0 (vR w.1)).1)).1))) (h1 : ∃ x, sh w p0 = some x := by exact ⟨_, by assumption⟩) (h2 : shp[w.1]? = some (.inl (0, 13)) := by assumption) (h3 : kc + 1 ≤ m_X1_init.2.2.2.2.cells ∧ ks + 13 ≤ m_X1_init.2.2.2.2.slots := by decide) (h4 : sh (nwW w) p0 = some (.inr 1) := by assumption) (h5 : shp[(stR (nwW w) p0 0 (vR w.1)).1]? = some (.inl (0, 13)) := by assumption) (h6 : (kc + 1) + 1 ≤ m_X1_init.2.2.2.2.cells ∧ (ks + 13) + 13 ≤ m_X1_init.2.2.2.2.slots := by decide) (h7 : sh (nwW (stR (nwW w) p0 0 (vR w.1))) p0 = some (.inr 1) := by assumption) (h8 : shp[(stR (nwW (stR (nwW w) p0 0 (vR w.1))) p0 1 (vR (stR (nwW w) p0 0 (vR w.1)).1)).1]? = some (.inl (0, 13)) := by assumption) (h9 : ((kc + 1) + 1) + 1 ≤ m_X1_init.2.2.2.2.cells ∧ ((ks + 13) + 13) + 13 ≤ m_X1_init.2.2.2.2.slots := by decide) (h10 : sh (nwW (stR (nwW (stR (nwW w) p0 0 (vR w.1))) p0 1 (vR (stR (nwW w) p0 0 (vR w.1)).1))) p0 = some (.inr 1) := by assumption) : G Γ m_X1_init Ret kc ks 0 [some (vR p0)] [] w := by
  refine G_aload_n dX1_init_0 rfl ?_
  refine G_obj dX1_init_1 tb_221 tb_60 tb_61 h1 (by decide) ?_
  refine G_aload_n dX1_init_4 rfl ?_
  refine G_bipush dX1_init_5 (by decide +kernel) ?_
  refine G_newarr (n := 13) (t := 0) (ty := .int) dX1_init_7 (by decide) rfl tb_125 h2 (by decide) h3 ?_
  refine G_putR (ty := (.array .int)) dX1_init_9 fl_RX1_9 h4 rfl (fun _ => ⟨rfl, _, _, rfl⟩) (by decide +kernel) (fun _ => rfl) (fun _ => rfl) ?_
  refine G_aload_n dX1_init_12 rfl ?_
  refine G_bipush dX1_init_13 (by decide +kernel) ?_
  refine G_newarr (n := 13) (t := 0) (ty := .int) dX1_init_15 (by decide) rfl tb_125 h5 (by decide) h6 ?_
  refine G_putR (ty := (.array .int)) dX1_init_17 fl_RX1_15 h7 rfl (fun _ => ⟨rfl, _, _, rfl⟩) (by decide +kernel) (fun _ => rfl) (fun _ => rfl) ?_
  refine G_aload_n dX1_init_20 rfl ?_
  refine G_bipush dX1_init_21 (by decide +kernel) ?_
  refine G_newarr (n := 13) (t := 0) (ty := .int) dX1_init_23 (by decide) rfl tb_125 h8 (by decide) h9 ?_
  refine G_putR (ty := (.array .int)) dX1_init_25 fl_RX1_18 h10 rfl (fun _ => ⟨rfl, _, _, rfl⟩) (by decide +kernel) (fun _ => rfl) (fun _ => rfl) ?_
  exact km
theorem k_X1_init_28 {Γ : Gm} {Ret : Option Value → Wd → Prop} {kc ks : Nat} {p0 : Nat} {w : Wd} (kr : Ret none (stI w p0 5 0)) (h1 : sh w p0 = some (.inr 1) := by assumption) (h2 : kc = m_X1_init.2.2.2.2.cells ∧ ks ≤ m_X1_init.2.2.2.2.slots := by decide) : G Γ m_X1_init Ret kc ks 28 [some (vR p0)] [] w := by
  refine G_aload_n dX1_init_28 rfl ?_
  refine G_const dX1_init_29 ?_
  refine G_putZ dX1_init_30 fl_RX1_21 h1 rfl (Or.inl rfl) ?_
  exact G_retv dX1_init_33 trivial h2 kr
theorem k_X1_make_0 {Γ : Gm} {Ret : Option Value → Wd → Prop} {p0 p1 p2 q1 : Nat} {w : Wd} {Q : Wd → Prop} (c5 : SpV Γ m_X6_put [vR q1, vI (wI w p1 5), vI 0] (stI (stI w p0 3 (wI w p2 3)) p0 4 (wI w p1 5)) Q) (kq : ∀ u : Wd, Q u → G Γ m_X1_make Ret 0 0 28 [some (vR p0), some (vR p1), some (vR p2), none] [] u) (h1 : sh w p2 = some (.inr 0) := by assumption) (h2 : sh w p0 = some (.inr 1) := by assumption) (h3 : sh w p1 = some (.inr 3) := by assumption) (h4 : wR w p0 0 = vR q1 := by assumption) : G Γ m_X1_make Ret 0 0 0 [some (vR p0), some (vR p1), some (vR p2), none] [] w := by
  refine G_aload_n dX1_make_0 rfl ?_
  refine G_aload_n dX1_make_1 rfl ?_
  refine G_getI dX1_make_2 fl_RX1_25 h1 rfl ?_
  refine G_putI dX1_make_5 fl_RX1_31 h2 rfl ?_
  refine G_aload_n dX1_make_8 rfl ?_
  refine G_aload_n dX1_make_9 rfl ?_
  refine G_getI dX1_make_10 fl_RX1_34 h3 rfl ?_
  rw [wI_skip (by decide)]
  refine G_putI dX1_make_13 fl_RX1_39 h2 rfl ?_
  refine G_aload_n dX1_make_16 rfl ?_
  refine G_getR dX1_make_17 fl_RX1_9 h2 rfl h4 ?_
  refine G_aload_n dX1_make_20 rfl ?_
  refine G_getI dX1_make_21 fl_RX1_39 h2 rfl ?_
  rw [wI_hit]
  refine G_const dX1_make_24 ?_
  exact G_SV (as := [vR q1, vI (wI w p1 5), vI 0]) (st := []) n0_X6_put dX1_make_25 ml_RX1_42 mc_X6_put rfl ⟨by decide, ⟨Nat.le_of_ble_eq_true rfl, Nat.le_of_ble_eq_true rfl⟩, Nat.le_of_ble_eq_true rfl⟩ c5 (fun u hq => kq u hq)
theorem k_X1_make_28 {Γ : Gm} {Ret : Option Value → Wd → Prop} {p0 p1 p2 q1 : Nat} {o3 : Option Value} {w : Wd} {Q : Wd → Prop} (c3 : SpV Γ m_X6_put [vR q1, vI (wI w p0 4), vI 0] w Q) (kq : ∀ u : Wd, Q u → G Γ m_X1_make Ret 0 0 40 [some (vR p0), some (vR p1), some (vR p2), o3] [] u) (h1 : sh w p0 = some (.inr 1) := by assumption) (h2 : wR w p0 1 = vR q1 := by assumption) : G Γ m_X1_make Ret 0 0 28 [some (vR p0), some (vR p1), some (vR p2), o3] [] w := by
  refine G_aload_n dX1_make_28 rfl ?_
  refine G_getR dX1_make_29 fl_RX1_15 h1 rfl h2 ?_
  refine G_aload_n dX1_make_32 rfl ?_
  refine G_getI dX1_make_33 fl_RX1_39 h1 rfl ?_
  refine G_const dX1_make_36 ?_
  exact G_SV (as := [vR q1, vI (wI w p0 4), vI 0]) (st := []) n0_X6_put dX1_make_37 ml_RX1_42 mc_X6_put rfl ⟨by decide, ⟨Nat.le_of_ble_eq_true rfl, Nat.le_of_ble_eq_true rfl⟩, Nat.le_of_ble_eq_true rfl⟩ c3 (fun u hq => kq u hq)
theorem k_X1_make_40 {Γ : Gm} {Ret : Option Value → Wd → Prop} {p0 p1 p2 : Nat} {o3 : Option Value} {w : Wd} (km : G Γ m_X1_make Ret 0 0 47 [some (vR p0), some (vR p1), some (vR p2), some (vI ((wI w p0 4) - 1))] [] w) (h1 : sh w p0 = some (.inr 1) := by assumption) : G Γ m_X1_make Ret 0 0 40 [some (vR p0), some (vR p1), some (vR p2), o3] [] w := by
  refine G_aload_n dX1_make_40 rfl ?_
  refine G_getI dX1_make_41 fl_RX1_39 h1 rfl ?_
  refine G_const dX1_make_44 ?_
  refine G_isub dX1_make_45 ?_
  refine G_istore_n dX1_make_46 (by decide) rfl ?_
  exact km
theorem k_X1_make_47 {Γ : Gm} {Ret : Option Value → Wd → Prop} {a3 : Int} {p0 p1 p2 : Nat} {w : Wd} (kt : a3 < (wI w p0 3) → G Γ m_X1_make Ret 0 0 67 [some (vR p0), some (vR p1), some (vR p2), some (vI a3)] [] w) (kf : ¬ (a3 < (wI w p0 3)) → G Γ m_X1_make Ret 0 0 55 [some (vR p0), some (vR p1), some (vR p2), some (vI a3)] [] w) (h1 : sh w p0 = some (.inr 1) := by assumption) (h2 : sm a3 := by omega) (h3 : sm (wI w p0 3) := by omega) : G Γ m_X1_make Ret 0 0 47 [some (vR p0), some (vR p1), some (vR p2), some (vI a3)] [] w := by
  refine G_iload_n dX1_make_47 rfl ?_
  refine G_aload_n dX1_make_48 rfl ?_
  refine G_getI dX1_make_49 fl_RX1_31 h1 rfl ?_
  exact G_icmp_lt dX1_make_52 (by decide) h2 h3 kt kf
theorem k_X1_make_67 {Γ : Gm} {Ret : Option Value → Wd → Prop} {z2 z4 : Int} {p0 p2 q1 q3 : Nat} {o1 o3 : Option Value} {w : Wd} (c3 : SpP Γ m_X6_at [vR q1, vI (wI w p0 3)] w z2) (c5 : SpP Γ m_X6_at [vR q3, vI (wI w p0 3)] (stI w p0 6 z2) z4) (kt : (wI w p2 4) < z2 → G Γ m_X1_make Ret 0 0 113 [some (vR p0), o1, some (vR p2), o3] [vR p0] (stI (stI w p0 6 z2) p0 7 z4)) (kf : ¬ ((wI w p2 4) < z2) → G Γ m_X1_make Ret 0 0 109 [some (vR p0), o1, some (vR p2), o3] [vR p0] (stI (stI w p0 6 z2) p0 7 z4)) (h1 : sh w p0 = some (.inr 1) := by assumption) (h2 : wR w p0 0 = vR q1 := by assumption) (h4 : wR w p0 1 = vR q3 := by assumption) (h6 : sh w p2 = some (.inr 0) := by assumption) (h7 : sm z2 := by omega) (h8 : sm (wI w p2 4) := by omega) : G Γ m_X1_make Ret 0 0 67 [some (vR p0), o1, some (vR p2), o3] [] w := by
  refine G_aload_n dX1_make_67 rfl ?_
  refine G_aload_n dX1_make_68 rfl ?_
  refine G_getR dX1_make_69 fl_RX1_9 h1 rfl h2 ?_
  refine G_aload_n dX1_make_72 rfl ?_
  refine G_getI dX1_make_73 fl_RX1_31 h1 rfl ?_
  refine G_SP (as := [vR q1, vI (wI w p0 3)]) (st := [vR p0]) n0_X6_at dX1_make_76 ml_RX1_50 mc_X6_at rfl ⟨by decide, ⟨Nat.le_of_ble_eq_true rfl, Nat.le_of_ble_eq_true rfl⟩, Nat.le_of_ble_eq_true rfl⟩ c3 ?_
  refine G_putI dX1_make_79 fl_RX1_54 h1 rfl ?_
  refine G_aload_n dX1_make_82 rfl ?_
  refine G_aload_n dX1_make_83 rfl ?_
  refine G_getR dX1_make_84 fl_RX1_15 h1 rfl h4 ?_
  refine G_aload_n dX1_make_87 rfl ?_
  refine G_getI dX1_make_88 fl_RX1_31 h1 rfl ?_
  rw [wI_skip (by decide)]
  refine G_SP (as := [vR q3, vI (wI w p0 3)]) (st := [vR p0]) n0_X6_at dX1_make_91 ml_RX1_50 mc_X6_at rfl ⟨by decide, ⟨Nat.le_of_ble_eq_true rfl, Nat.le_of_ble_eq_true rfl⟩, Nat.le_of_ble_eq_true rfl⟩ c5 ?_
  refine G_putI dX1_make_94 fl_RX1_57 h1 rfl ?_
  refine G_aload_n dX1_make_97 rfl ?_
  refine G_aload_n dX1_make_98 rfl ?_
  refine G_getI dX1_make_99 fl_RX1_54 h1 rfl ?_
  rw [wI_skip (by decide)]
  rw [wI_hit]
  refine G_aload_n dX1_make_102 rfl ?_
  refine G_getI dX1_make_103 fl_RX1_60 h6 rfl ?_
  rw [wI_skip (by decide)]
  rw [wI_skip (by decide)]
  exact G_icmp_gt dX1_make_106 (by decide) h7 h8 kt kf
theorem k_X1_make_55 {Γ : Gm} {Ret : Option Value → Wd → Prop} {a3 : Int} {p0 p1 p2 : Nat} {w : Wd} {Q : Wd → Prop} (c2 : SpV Γ m_X1_choose [vR p0, vR p1, vI a3] w Q) (kq : ∀ u : Wd, Q u → G Γ m_X1_make Ret 0 0 61 [some (vR p0), some (vR p1), some (vR p2), some (vI a3)] [] u) (h1 : sh w p0 = some (.inr 1) := by assumption) : G Γ m_X1_make Ret 0 0 55 [some (vR p0), some (vR p1), some (vR p2), some (vI a3)] [] w := by
  refine G_aload_n dX1_make_55 rfl ?_
  refine G_aload_n dX1_make_56 rfl ?_
  refine G_iload_n dX1_make_57 rfl ?_
  exact G_VV (as := [vR p1, vI a3]) (st := []) n0_X1_choose dX1_make_58 ml_RX1_46 mc_X1_choose rfl ⟨by decide, ⟨Nat.le_of_ble_eq_true rfl, Nat.le_of_ble_eq_true rfl⟩, Nat.le_of_ble_eq_true rfl⟩ h1 ⟨_, _, rfl⟩ c2 (fun u hq => kq u hq)
theorem k_X1_make_113 {Γ : Gm} {Ret : Option Value → Wd → Prop} {t0 : Nat} {o0 o1 o2 o3 : Option Value} {w : Wd} (kr : Ret none (stI w t0 5 0)) (h1 : sh w t0 = some (.inr 1) := by assumption) : G Γ m_X1_make Ret 0 0 113 [o0, o1, o2, o3] [vR t0] w := by
  refine G_const dX1_make_113 ?_
  refine G_putZ dX1_make_114 fl_RX1_21 h1 rfl (Or.inl rfl) ?_
  exact G_retv dX1_make_117 trivial ⟨rfl, Nat.le_of_ble_eq_true rfl⟩ kr
theorem k_X1_make_109 {Γ : Gm} {Ret : Option Value → Wd → Prop} {t0 : Nat} {o0 o1 o2 o3 : Option Value} {w : Wd} (kr : Ret none (stI w t0 5 1)) (h1 : sh w t0 = some (.inr 1) := by assumption) : G Γ m_X1_make Ret 0 0 109 [o0, o1, o2, o3] [vR t0] w := by
  refine G_const dX1_make_109 ?_
  refine G_goto dX1_make_110 (tgt := 114) (by decide) ?_
  refine G_putZ dX1_make_114 fl_RX1_21 h1 rfl (Or.inr rfl) ?_
  exact G_retv dX1_make_117 trivial ⟨rfl, Nat.le_of_ble_eq_true rfl⟩ kr
theorem k_X1_make_61 {Γ : Gm} {Ret : Option Value → Wd → Prop} {a3 : Int} {p0 p1 p2 : Nat} {w : Wd} (km : G Γ m_X1_make Ret 0 0 47 [some (vR p0), some (vR p1), some (vR p2), some (vI (a3 + (-1)))] [] w) : G Γ m_X1_make Ret 0 0 61 [some (vR p0), some (vR p1), some (vR p2), some (vI a3)] [] w := by
  refine G_iinc dX1_make_61 (by decide) rfl rfl ?_
  refine G_goto dX1_make_64 (tgt := 47) (by decide) ?_
  exact km
theorem k_X1_choose_0 {Γ : Gm} {Ret : Option Value → Wd → Prop} {a2 : Int} {p0 p1 : Nat} {w : Wd} (kt : a2 ≤ 0 → G Γ m_X1_choose Ret 0 0 22 [some (vR p0), some (vR p1), some (vI a2), none, none, none, none, none] [] w) (kf : ¬ (a2 ≤ 0) → G Γ m_X1_choose Ret 0 0 4 [some (vR p0), some (vR p1), some (vI a2), none, none, none, none, none] [] w) (h1 : sm a2 := by omega) : G Γ m_X1_choose Ret 0 0 0 [some (vR p0), some (vR p1), some (vI a2), none, none, none, none, none] [] w := by
  refine G_iload_n dX1_choose_0 rfl ?_
  exact G_if_le dX1_choose_1 (by decide) h1 kt kf
theorem k_X1_choose_22 {Γ : Gm} {Ret : Option Value → Wd → Prop} {a2 : Int} {p0 p1 : Nat} {o3 o4 o5 o6 o7 : Option Value} {w : Wd} (km : G Γ m_X1_choose Ret 0 0 42 [some (vR p0), some (vR p1), some (vI a2), some (vI 0), some (vI (min (wI w p1 7) ((wI w p0 4) - a2))), some (vI 1), o6, o7] [] w) (h1 : sh w p1 = some (.inr 3) := by assumption) (h2 : sh w p0 = some (.inr 1) := by assumption) (h3 : sm (wI w p1 7) := by omega) (h4 : sm ((wI w p0 4) - a2) := by omega) : G Γ m_X1_choose Ret 0 0 22 [some (vR p0), some (vR p1), some (vI a2), o3, o4, o5, o6, o7] [] w := by
  refine G_const dX1_choose_22 ?_
  refine G_istore_n dX1_choose_23 (by decide) rfl ?_
  refine G_aload_n dX1_choose_24 rfl ?_
  refine G_getI dX1_choose_25 fl_RX1_70 h1 rfl ?_
  refine G_aload_n dX1_choose_28 rfl ?_
  refine G_getI dX1_choose_29 fl_RX1_39 h2 rfl ?_
  refine G_iload_n dX1_choose_32 rfl ?_
  refine G_isub dX1_choose_33 ?_
  refine G_mmin dX1_choose_34 tb_590 tb_509 tb_44 tb_510 h3 h4 ⟨Nat.le_of_ble_eq_true rfl, Nat.le_of_ble_eq_true rfl⟩ ⟨Nat.le_of_ble_eq_true rfl, Nat.le_of_ble_eq_true rfl⟩ ?_
  refine G_istore dX1_choose_37 (by decide) rfl ?_
  refine G_const dX1_choose_39 ?_
  refine G_istore dX1_choose_40 (by decide) rfl ?_
  exact km
theorem k_X1_choose_4 {Γ : Gm} {Ret : Option Value → Wd → Prop} {a2 z1 z2 : Int} {p0 p1 : Nat} {o3 o4 o5 o6 o7 : Option Value} {w : Wd} (c2 : SpP Γ m_X3_lightAt [vR p1, vI (a2 - 1)] w z1) (c3 : SpP Γ m_X3_treadAt [vR p1, vI (a2 - 1)] w z2) (km : G Γ m_X1_choose Ret 0 0 42 [some (vR p0), some (vR p1), some (vI a2), some (vI (z1 + z2)), some (vI (min (wI w p1 7) ((wI w p0 4) - a2))), some (vI 1), o6, o7] [] w) (h1 : sh w p1 = some (.inr 3) := by assumption) (h4 : sh w p0 = some (.inr 1) := by assumption) (h5 : sm (wI w p1 7) := by omega) (h6 : sm ((wI w p0 4) - a2) := by omega) : G Γ m_X1_choose Ret 0 0 4 [some (vR p0), some (vR p1), some (vI a2), o3, o4, o5, o6, o7] [] w := by
  refine G_aload_n dX1_choose_4 rfl ?_
  refine G_iload_n dX1_choose_5 rfl ?_
  refine G_const dX1_choose_6 ?_
  refine G_isub dX1_choose_7 ?_
  refine G_VP (as := [vI (a2 - 1)]) (st := []) n0_X3_lightAt dX1_choose_8 ml_RX1_63 mc_X3_lightAt rfl ⟨by decide, ⟨Nat.le_of_ble_eq_true rfl, Nat.le_of_ble_eq_true rfl⟩, Nat.le_of_ble_eq_true rfl⟩ h1 ⟨_, _, rfl⟩ c2 ?_
  refine G_aload_n dX1_choose_11 rfl ?_
  refine G_iload_n dX1_choose_12 rfl ?_
  refine G_const dX1_choose_13 ?_
  refine G_isub dX1_choose_14 ?_
  refine G_VP (as := [vI (a2 - 1)]) (st := [vI z1]) n0_X3_treadAt dX1_choose_15 ml_RX1_67 mc_X3_treadAt rfl ⟨by decide, ⟨Nat.le_of_ble_eq_true rfl, Nat.le_of_ble_eq_true rfl⟩, Nat.le_of_ble_eq_true rfl⟩ h1 ⟨_, _, rfl⟩ c3 ?_
  refine G_iadd dX1_choose_18 ?_
  refine G_goto dX1_choose_19 (tgt := 23) (by decide) ?_
  refine G_istore_n dX1_choose_23 (by decide) rfl ?_
  refine G_aload_n dX1_choose_24 rfl ?_
  refine G_getI dX1_choose_25 fl_RX1_70 h1 rfl ?_
  refine G_aload_n dX1_choose_28 rfl ?_
  refine G_getI dX1_choose_29 fl_RX1_39 h4 rfl ?_
  refine G_iload_n dX1_choose_32 rfl ?_
  refine G_isub dX1_choose_33 ?_
  refine G_mmin dX1_choose_34 tb_590 tb_509 tb_44 tb_510 h5 h6 ⟨Nat.le_of_ble_eq_true rfl, Nat.le_of_ble_eq_true rfl⟩ ⟨Nat.le_of_ble_eq_true rfl, Nat.le_of_ble_eq_true rfl⟩ ?_
  refine G_istore dX1_choose_37 (by decide) rfl ?_
  refine G_const dX1_choose_39 ?_
  refine G_istore dX1_choose_40 (by decide) rfl ?_
  exact km
theorem k_X1_choose_42 {Γ : Gm} {Ret : Option Value → Wd → Prop} {a2 a3 a4 a5 : Int} {p0 p1 : Nat} {o6 o7 : Option Value} {w : Wd} (kt : a4 < a5 → G Γ m_X1_choose Ret 0 0 139 [some (vR p0), some (vR p1), some (vI a2), some (vI a3), some (vI a4), some (vI a5), o6, o7] [] w) (kf : ¬ (a4 < a5) → G Γ m_X1_choose Ret 0 0 49 [some (vR p0), some (vR p1), some (vI a2), some (vI a3), some (vI a4), some (vI a5), o6, o7] [] w) (h1 : sm a5 := by omega) (h2 : sm a4 := by omega) : G Γ m_X1_choose Ret 0 0 42 [some (vR p0), some (vR p1), some (vI a2), some (vI a3), some (vI a4), some (vI a5), o6, o7] [] w := by
  refine G_iload dX1_choose_42 rfl ?_
  refine G_iload dX1_choose_44 rfl ?_
  exact G_icmp_gt dX1_choose_46 (by decide) h1 h2 kt kf
theorem k_X1_choose_139 {Γ : Gm} {Ret : Option Value → Wd → Prop} {o0 o1 o2 o3 o4 o5 o6 o7 : Option Value} {w : Wd} (kr : Ret none w) : G Γ m_X1_choose Ret 0 0 139 [o0, o1, o2, o3, o4, o5, o6, o7] [] w := by
  exact G_retv dX1_choose_139 trivial ⟨rfl, Nat.le_of_ble_eq_true rfl⟩ kr
theorem k_X1_choose_49 {Γ : Gm} {Ret : Option Value → Wd → Prop} {a2 a3 a4 a5 z1 z3 z5 : Int} {p0 p1 q2 q4 : Nat} {o6 o7 : Option Value} {w : Wd} (c2 : SpP Γ m_X3_lengthFor [vR p1, vI a2, vI a5] w z1) (c5 : SpP Γ m_X6_at [vR q2, vI (a2 + a5)] w z3) (c7 : SpP Γ m_X6_at [vR q4, vI (a2 + a5)] w z5) (kt : a5 = 1 → G Γ m_X1_choose Ret 0 0 103 [some (vR p0), some (vR p1), some (vI a2), some (vI a3), some (vI a4), some (vI a5), some (vI (z1 + z3)), some (vI (a3 + z5))] [] w) (kf : ¬ (a5 = 1) → G Γ m_X1_choose Ret 0 0 91 [some (vR p0), some (vR p1), some (vI a2), some (vI a3), some (vI a4), some (vI a5), some (vI (z1 + z3)), some (vI (a3 + z5))] [] w) (h1 : sh w p1 = some (.inr 3) := by assumption) (h3 : sh w p0 = some (.inr 1) := by assumption) (h4 : wR w p0 0 = vR q2 := by assumption) (h6 : wR w p0 1 = vR q4 := by assumption) (h8 : sm a5 := by omega) : G Γ m_X1_choose Ret 0 0 49 [some (vR p0), some (vR p1), some (vI a2), some (vI a3), some (vI a4), some (vI a5), o6, o7] [] w := by
  refine G_aload_n dX1_choose_49 rfl ?_
  refine G_iload_n dX1_choose_50 rfl ?_
  refine G_iload dX1_choose_51 rfl ?_
  refine G_VP (as := [vI a2, vI a5]) (st := []) n0_X3_lengthFor dX1_choose_53 ml_RX1_79 mc_X3_lengthFor rfl ⟨by decide, ⟨Nat.le_of_ble_eq_true rfl, Nat.le_of_ble_eq_true rfl⟩, Nat.le_of_ble_eq_true rfl⟩ h1 ⟨_, _, rfl⟩ c2 ?_
  refine G_aload_n dX1_choose_56 rfl ?_
  refine G_getR dX1_choose_57 fl_RX1_9 h3 rfl h4 ?_
  refine G_iload_n dX1_choose_60 rfl ?_
  refine G_iload dX1_choose_61 rfl ?_
  refine G_iadd dX1_choose_63 ?_
  refine G_SP (as := [vR q2, vI (a2 + a5)]) (st := [vI z1]) n0_X6_at dX1_choose_64 ml_RX1_50 mc_X6_at rfl ⟨by decide, ⟨Nat.le_of_ble_eq_true rfl, Nat.le_of_ble_eq_true rfl⟩, Nat.le_of_ble_eq_true rfl⟩ c5 ?_
  refine G_iadd dX1_choose_67 ?_
  refine G_istore dX1_choose_68 (by decide) rfl ?_
  refine G_iload_n dX1_choose_70 rfl ?_
  refine G_aload_n dX1_choose_71 rfl ?_
  refine G_getR dX1_choose_72 fl_RX1_15 h3 rfl h6 ?_
  refine G_iload_n dX1_choose_75 rfl ?_
  refine G_iload dX1_choose_76 rfl ?_
  refine G_iadd dX1_choose_78 ?_
  refine G_SP (as := [vR q4, vI (a2 + a5)]) (st := [vI a3]) n0_X6_at dX1_choose_79 ml_RX1_50 mc_X6_at rfl ⟨by decide, ⟨Nat.le_of_ble_eq_true rfl, Nat.le_of_ble_eq_true rfl⟩, Nat.le_of_ble_eq_true rfl⟩ c7 ?_
  refine G_iadd dX1_choose_82 ?_
  refine G_istore dX1_choose_83 (by decide) rfl ?_
  refine G_iload dX1_choose_85 rfl ?_
  refine G_const dX1_choose_87 ?_
  exact G_icmp_eq dX1_choose_88 (by decide) h8 (by decide) kt kf
theorem k_X1_choose_103 {Γ : Gm} {Ret : Option Value → Wd → Prop} {a2 a3 a4 a5 a6 a7 : Int} {p0 p1 q1 : Nat} {w : Wd} {Q : Wd → Prop} (c3 : SpV Γ m_X6_put [vR q1, vI a2, vI a6] w Q) (kq : ∀ u : Wd, Q u → G Γ m_X1_choose Ret 0 0 113 [some (vR p0), some (vR p1), some (vI a2), some (vI a3), some (vI a4), some (vI a5), some (vI a6), some (vI a7)] [] u) (h1 : sh w p0 = some (.inr 1) := by assumption) (h2 : wR w p0 0 = vR q1 := by assumption) : G Γ m_X1_choose Ret 0 0 103 [some (vR p0), some (vR p1), some (vI a2), some (vI a3), some (vI a4), some (vI a5), some (vI a6), some (vI a7)] [] w := by
  refine G_aload_n dX1_choose_103 rfl ?_
  refine G_getR dX1_choose_104 fl_RX1_9 h1 rfl h2 ?_
  refine G_iload_n dX1_choose_107 rfl ?_
  refine G_iload dX1_choose_108 rfl ?_
  exact G_SV (as := [vR q1, vI a2, vI a6]) (st := []) n0_X6_put dX1_choose_110 ml_RX1_42 mc_X6_put rfl ⟨by decide, ⟨Nat.le_of_ble_eq_true rfl, Nat.le_of_ble_eq_true rfl⟩, Nat.le_of_ble_eq_true rfl⟩ c3 (fun u hq => kq u hq)
theorem k_X1_choose_91 {Γ : Gm} {Ret : Option Value → Wd → Prop} {a2 a3 a4 a5 a6 a7 z1 : Int} {p0 p1 : Nat} {w : Wd} (c2 : SpP Γ m_X1_isLess [vR p0, vI a6, vI a7, vI a2] w z1) (kt : z1 = 0 → G Γ m_X1_choose Ret 0 0 133 [some (vR p0), some (vR p1), some (vI a2), some (vI a3), some (vI a4), some (vI a5), some (vI a6), some (vI a7)] [] w) (kf : ¬ (z1 = 0) → G Γ m_X1_choose Ret 0 0 103 [some (vR p0), some (vR p1), some (vI a2), some (vI a3), some (vI a4), some (vI a5), some (vI a6), some (vI a7)] [] w) (h1 : sh w p0 = some (.inr 1) := by assumption) (h3 : sm z1 := by omega) : G Γ m_X1_choose Ret 0 0 91 [some (vR p0), some (vR p1), some (vI a2), some (vI a3), some (vI a4), some (vI a5), some (vI a6), some (vI a7)] [] w := by
  refine G_aload_n dX1_choose_91 rfl ?_
  refine G_iload dX1_choose_92 rfl ?_
  refine G_iload dX1_choose_94 rfl ?_
  refine G_iload_n dX1_choose_96 rfl ?_
  refine G_VP (as := [vI a6, vI a7, vI a2]) (st := []) n0_X1_isLess dX1_choose_97 ml_RX1_82 mc_X1_isLess rfl ⟨by decide, ⟨Nat.le_of_ble_eq_true rfl, Nat.le_of_ble_eq_true rfl⟩, Nat.le_of_ble_eq_true rfl⟩ h1 ⟨_, _, rfl⟩ c2 ?_
  exact G_if_eq dX1_choose_100 (by decide) h3 kt kf
theorem k_X1_choose_113 {Γ : Gm} {Ret : Option Value → Wd → Prop} {a2 a3 a4 a5 a7 : Int} {p0 p1 q1 : Nat} {o6 : Option Value} {w : Wd} {Q : Wd → Prop} (c3 : SpV Γ m_X6_put [vR q1, vI a2, vI a7] w Q) (kq : ∀ u : Wd, Q u → G Γ m_X1_choose Ret 0 0 123 [some (vR p0), some (vR p1), some (vI a2), some (vI a3), some (vI a4), some (vI a5), o6, some (vI a7)] [] u) (h1 : sh w p0 = some (.inr 1) := by assumption) (h2 : wR w p0 1 = vR q1 := by assumption) : G Γ m_X1_choose Ret 0 0 113 [some (vR p0), some (vR p1), some (vI a2), some (vI a3), some (vI a4), some (vI a5), o6, some (vI a7)] [] w := by
  refine G_aload_n dX1_choose_113 rfl ?_
  refine G_getR dX1_choose_114 fl_RX1_15 h1 rfl h2 ?_
  refine G_iload_n dX1_choose_117 rfl ?_
  refine G_iload dX1_choose_118 rfl ?_
  exact G_SV (as := [vR q1, vI a2, vI a7]) (st := []) n0_X6_put dX1_choose_120 ml_RX1_42 mc_X6_put rfl ⟨by decide, ⟨Nat.le_of_ble_eq_true rfl, Nat.le_of_ble_eq_true rfl⟩, Nat.le_of_ble_eq_true rfl⟩ c3 (fun u hq => kq u hq)
theorem k_X1_choose_133 {Γ : Gm} {Ret : Option Value → Wd → Prop} {a2 a3 a4 a5 : Int} {p0 p1 : Nat} {o6 o7 : Option Value} {w : Wd} (km : G Γ m_X1_choose Ret 0 0 42 [some (vR p0), some (vR p1), some (vI a2), some (vI a3), some (vI a4), some (vI (a5 + 1)), o6, o7] [] w) : G Γ m_X1_choose Ret 0 0 133 [some (vR p0), some (vR p1), some (vI a2), some (vI a3), some (vI a4), some (vI a5), o6, o7] [] w := by
  refine G_iinc dX1_choose_133 (by decide) rfl rfl ?_
  refine G_goto dX1_choose_136 (tgt := 42) (by decide) ?_
  exact km
theorem k_X1_choose_123 {Γ : Gm} {Ret : Option Value → Wd → Prop} {a2 a3 a4 a5 : Int} {p0 p1 q1 : Nat} {o6 o7 : Option Value} {w : Wd} {Q : Wd → Prop} (c3 : SpV Γ m_X6_put [vR q1, vI a2, vI a5] w Q) (kq : ∀ u : Wd, Q u → G Γ m_X1_choose Ret 0 0 133 [some (vR p0), some (vR p1), some (vI a2), some (vI a3), some (vI a4), some (vI a5), o6, o7] [] u) (h1 : sh w p0 = some (.inr 1) := by assumption) (h2 : wR w p0 2 = vR q1 := by assumption) : G Γ m_X1_choose Ret 0 0 123 [some (vR p0), some (vR p1), some (vI a2), some (vI a3), some (vI a4), some (vI a5), o6, o7] [] w := by
  refine G_aload_n dX1_choose_123 rfl ?_
  refine G_getR dX1_choose_124 fl_RX1_18 h1 rfl h2 ?_
  refine G_iload_n dX1_choose_127 rfl ?_
  refine G_iload dX1_choose_128 rfl ?_
  exact G_SV (as := [vR q1, vI a2, vI a5]) (st := []) n0_X6_put dX1_choose_130 ml_RX1_42 mc_X6_put rfl ⟨by decide, ⟨Nat.le_of_ble_eq_true rfl, Nat.le_of_ble_eq_true rfl⟩, Nat.le_of_ble_eq_true rfl⟩ c3 (fun u hq => kq u hq)
theorem k_X1_isLess_0 {Γ : Gm} {Ret : Option Value → Wd → Prop} {a1 a2 a3 z2 : Int} {p0 q1 : Nat} {w : Wd} (c3 : SpP Γ m_X6_at [vR q1, vI a3] w z2) (kt : a1 < z2 → G Γ m_X1_isLess Ret 0 0 34 [some (vR p0), some (vI a1), some (vI a2), some (vI a3), some (vI z2)] [] w) (kf : ¬ (a1 < z2) → G Γ m_X1_isLess Ret 0 0 16 [some (vR p0), some (vI a1), some (vI a2), some (vI a3), some (vI z2)] [] w) (h1 : sh w p0 = some (.inr 1) := by assumption) (h2 : wR w p0 0 = vR q1 := by assumption) (h4 : sm a1 := by omega) (h5 : sm z2 := by omega) : G Γ m_X1_isLess Ret 0 0 0 [some (vR p0), some (vI a1), some (vI a2), some (vI a3), none] [] w := by
  refine G_aload_n dX1_isLess_0 rfl ?_
  refine G_getR dX1_isLess_1 fl_RX1_9 h1 rfl h2 ?_
  refine G_iload_n dX1_isLess_4 rfl ?_
  refine G_SP (as := [vR q1, vI a3]) (st := []) n0_X6_at dX1_isLess_5 ml_RX1_50 mc_X6_at rfl ⟨by decide, ⟨Nat.le_of_ble_eq_true rfl, Nat.le_of_ble_eq_true rfl⟩, Nat.le_of_ble_eq_true rfl⟩ c3 ?_
  refine G_istore dX1_isLess_8 (by decide) rfl ?_
  refine G_iload_n dX1_isLess_10 rfl ?_
  refine G_iload dX1_isLess_11 rfl ?_
  exact G_icmp_lt dX1_isLess_13 (by decide) h4 h5 kt kf
theorem k_X1_isLess_34 {Γ : Gm} {Ret : Option Value → Wd → Prop} {o0 o1 o2 o3 o4 : Option Value} {w : Wd} (kr : Ret (some (vI 1)) w) : G Γ m_X1_isLess Ret 0 0 34 [o0, o1, o2, o3, o4] [] w := by
  refine G_const dX1_isLess_34 ?_
  refine G_goto dX1_isLess_35 (tgt := 39) (by decide) ?_
  exact G_reti dX1_isLess_39 (Or.inr rfl) ⟨rfl, Nat.le_of_ble_eq_true rfl⟩ kr
theorem k_X1_isLess_16 {Γ : Gm} {Ret : Option Value → Wd → Prop} {a1 a2 a3 a4 : Int} {p0 : Nat} {w : Wd} (kt : a1 ≠ a4 → G Γ m_X1_isLess Ret 0 0 38 [some (vR p0), some (vI a1), some (vI a2), some (vI a3), some (vI a4)] [] w) (kf : a1 = a4 → G Γ m_X1_isLess Ret 0 0 22 [some (vR p0), some (vI a1), some (vI a2), some (vI a3), some (vI a4)] [] w) (h1 : sm a1 := by omega) (h2 : sm a4 := by omega) : G Γ m_X1_isLess Ret 0 0 16 [some (vR p0), some (vI a1), some (vI a2), some (vI a3), some (vI a4)] [] w := by
  refine G_iload_n dX1_isLess_16 rfl ?_
  refine G_iload dX1_isLess_17 rfl ?_
  exact G_icmp_ne dX1_isLess_19 (by decide) h1 h2 kt kf
theorem k_X1_isLess_38 {Γ : Gm} {Ret : Option Value → Wd → Prop} {o0 o1 o2 o3 o4 : Option Value} {w : Wd} (kr : Ret (some (vI 0)) w) : G Γ m_X1_isLess Ret 0 0 38 [o0, o1, o2, o3, o4] [] w := by
  refine G_const dX1_isLess_38 ?_
  exact G_reti dX1_isLess_39 (Or.inl rfl) ⟨rfl, Nat.le_of_ble_eq_true rfl⟩ kr
theorem k_X1_isLess_22 {Γ : Gm} {Ret : Option Value → Wd → Prop} {a2 a3 z2 : Int} {p0 q1 : Nat} {o1 o4 : Option Value} {w : Wd} (c3 : SpP Γ m_X6_at [vR q1, vI a3] w z2) (kt : z2 ≤ a2 → G Γ m_X1_isLess Ret 0 0 38 [some (vR p0), o1, some (vI a2), some (vI a3), o4] [] w) (kf : ¬ (z2 ≤ a2) → G Γ m_X1_isLess Ret 0 0 34 [some (vR p0), o1, some (vI a2), some (vI a3), o4] [] w) (h1 : sh w p0 = some (.inr 1) := by assumption) (h2 : wR w p0 1 = vR q1 := by assumption) (h4 : sm a2 := by omega) (h5 : sm z2 := by omega) : G Γ m_X1_isLess Ret 0 0 22 [some (vR p0), o1, some (vI a2), some (vI a3), o4] [] w := by
  refine G_iload_n dX1_isLess_22 rfl ?_
  refine G_aload_n dX1_isLess_23 rfl ?_
  refine G_getR dX1_isLess_24 fl_RX1_15 h1 rfl h2 ?_
  refine G_iload_n dX1_isLess_27 rfl ?_
  refine G_SP (as := [vR q1, vI a3]) (st := [vI a2]) n0_X6_at dX1_isLess_28 ml_RX1_50 mc_X6_at rfl ⟨by decide, ⟨Nat.le_of_ble_eq_true rfl, Nat.le_of_ble_eq_true rfl⟩, Nat.le_of_ble_eq_true rfl⟩ c3 ?_
  exact G_icmp_ge dX1_isLess_31 (by decide) h4 h5 kt kf
theorem k_X1_breadthOf_0 {Γ : Gm} {Ret : Option Value → Wd → Prop} {a1 : Int} {p0 : Nat} {w : Wd} (km : G Γ m_X1_breadthOf Ret 0 0 7 [some (vR p0), some (vI a1), some (vI (wI w p0 3)), some (vI 0), none] [] w) (h1 : sh w p0 = some (.inr 1) := by assumption) : G Γ m_X1_breadthOf Ret 0 0 0 [some (vR p0), some (vI a1), none, none, none] [] w := by
  refine G_aload_n dX1_breadthOf_0 rfl ?_
  refine G_getI dX1_breadthOf_1 fl_RX1_31 h1 rfl ?_
  refine G_istore_n dX1_breadthOf_4 (by decide) rfl ?_
  refine G_const dX1_breadthOf_5 ?_
  refine G_istore_n dX1_breadthOf_6 (by decide) rfl ?_
  exact km
theorem k_X1_breadthOf_7 {Γ : Gm} {Ret : Option Value → Wd → Prop} {a1 a2 a3 : Int} {p0 : Nat} {o4 : Option Value} {w : Wd} (kt : 12 ≤ a3 → G Γ m_X1_breadthOf Ret 0 0 50 [some (vR p0), some (vI a1), some (vI a2), some (vI a3), o4] [] w) (kf : ¬ (12 ≤ a3) → G Γ m_X1_breadthOf Ret 0 0 13 [some (vR p0), some (vI a1), some (vI a2), some (vI a3), o4] [] w) (h1 : sm a3 := by omega) : G Γ m_X1_breadthOf Ret 0 0 7 [some (vR p0), some (vI a1), some (vI a2), some (vI a3), o4] [] w := by
  refine G_iload_n dX1_breadthOf_7 rfl ?_
  refine G_bipush dX1_breadthOf_8 (by decide +kernel) ?_
  exact G_icmp_ge dX1_breadthOf_10 (by decide) h1 (by decide) kt kf
theorem k_X1_breadthOf_50 {Γ : Gm} {Ret : Option Value → Wd → Prop} {o0 o1 o2 o3 o4 : Option Value} {w : Wd} (kr : Ret (some (vI (-4))) w) : G Γ m_X1_breadthOf Ret 0 0 50 [o0, o1, o2, o3, o4] [] w := by
  refine G_bipush dX1_breadthOf_50 (by decide +kernel) ?_
  exact G_reti dX1_breadthOf_52 trivial ⟨rfl, Nat.le_of_ble_eq_true rfl⟩ kr
theorem k_X1_breadthOf_13 {Γ : Gm} {Ret : Option Value → Wd → Prop} {a1 a2 a3 : Int} {p0 : Nat} {o4 : Option Value} {w : Wd} (kt : (wI w p0 4) ≤ a2 → G Γ m_X1_breadthOf Ret 0 0 50 [some (vR p0), some (vI a1), some (vI a2), some (vI a3), o4] [] w) (kf : ¬ ((wI w p0 4) ≤ a2) → G Γ m_X1_breadthOf Ret 0 0 21 [some (vR p0), some (vI a1), some (vI a2), some (vI a3), o4] [] w) (h1 : sh w p0 = some (.inr 1) := by assumption) (h2 : sm a2 := by omega) (h3 : sm (wI w p0 4) := by omega) : G Γ m_X1_breadthOf Ret 0 0 13 [some (vR p0), some (vI a1), some (vI a2), some (vI a3), o4] [] w := by
  refine G_iload_n dX1_breadthOf_13 rfl ?_
  refine G_aload_n dX1_breadthOf_14 rfl ?_
  refine G_getI dX1_breadthOf_15 fl_RX1_39 h1 rfl ?_
  exact G_icmp_ge dX1_breadthOf_18 (by decide) h2 h3 kt kf
theorem k_X1_breadthOf_21 {Γ : Gm} {Ret : Option Value → Wd → Prop} {a1 a2 a3 z2 : Int} {p0 q1 : Nat} {o4 : Option Value} {w : Wd} (c3 : SpP Γ m_X6_at [vR q1, vI a2] w z2) (kt : a3 ≠ a1 → G Γ m_X1_breadthOf Ret 0 0 39 [some (vR p0), some (vI a1), some (vI a2), some (vI a3), some (vI z2)] [] w) (kf : a3 = a1 → G Γ m_X1_breadthOf Ret 0 0 36 [some (vR p0), some (vI a1), some (vI a2), some (vI a3), some (vI z2)] [] w) (h1 : sh w p0 = some (.inr 1) := by assumption) (h2 : wR w p0 2 = vR q1 := by assumption) (h4 : sm a3 := by omega) (h5 : sm a1 := by omega) : G Γ m_X1_breadthOf Ret 0 0 21 [some (vR p0), some (vI a1), some (vI a2), some (vI a3), o4] [] w := by
  refine G_aload_n dX1_breadthOf_21 rfl ?_
  refine G_getR dX1_breadthOf_22 fl_RX1_18 h1 rfl h2 ?_
  refine G_iload_n dX1_breadthOf_25 rfl ?_
  refine G_SP (as := [vR q1, vI a2]) (st := []) n0_X6_at dX1_breadthOf_26 ml_RX1_50 mc_X6_at rfl ⟨by decide, ⟨Nat.le_of_ble_eq_true rfl, Nat.le_of_ble_eq_true rfl⟩, Nat.le_of_ble_eq_true rfl⟩ c3 ?_
  refine G_istore dX1_breadthOf_29 (by decide) rfl ?_
  refine G_iload_n dX1_breadthOf_31 rfl ?_
  refine G_iload_n dX1_breadthOf_32 rfl ?_
  exact G_icmp_ne dX1_breadthOf_33 (by decide) h4 h5 kt kf
theorem k_X1_breadthOf_39 {Γ : Gm} {Ret : Option Value → Wd → Prop} {a1 a2 a3 a4 : Int} {p0 : Nat} {w : Wd} (km : G Γ m_X1_breadthOf Ret 0 0 7 [some (vR p0), some (vI a1), some (vI (a2 + a4)), some (vI (a3 + 1)), some (vI a4)] [] w) : G Γ m_X1_breadthOf Ret 0 0 39 [some (vR p0), some (vI a1), some (vI a2), some (vI a3), some (vI a4)] [] w := by
  refine G_iload_n dX1_breadthOf_39 rfl ?_
  refine G_iload dX1_breadthOf_40 rfl ?_
  refine G_iadd dX1_breadthOf_42 ?_
  refine G_istore_n dX1_breadthOf_43 (by decide) rfl ?_
  refine G_iinc dX1_breadthOf_44 (by decide) rfl rfl ?_
  refine G_goto dX1_breadthOf_47 (tgt := 7) (by decide) ?_
  exact km
theorem k_X1_breadthOf_36 {Γ : Gm} {Ret : Option Value → Wd → Prop} {a4 : Int} {o0 o1 o2 o3 : Option Value} {w : Wd} (kr : Ret (some (vI a4)) w) : G Γ m_X1_breadthOf Ret 0 0 36 [o0, o1, o2, o3, some (vI a4)] [] w := by
  refine G_iload dX1_breadthOf_36 rfl ?_
  exact G_reti dX1_breadthOf_38 trivial ⟨rfl, Nat.le_of_ble_eq_true rfl⟩ kr
theorem k_X2_init_0 {Γ : Gm} {Ret : Option Value → Wd → Prop} {kc ks : Nat} {p0 : Nat} {w : Wd} (kr : Ret none (stI w p0 2 (-4))) (h1 : ∃ x, sh w p0 = some x := by exact ⟨_, by assumption⟩) (h2 : sh w p0 = some (.inr 2) := by assumption) (h3 : kc = m_X2_init.2.2.2.2.cells ∧ ks ≤ m_X2_init.2.2.2.2.slots := by decide) : G Γ m_X2_init Ret kc ks 0 [some (vR p0)] [] w := by
  refine G_aload_n dX2_init_0 rfl ?_
  refine G_obj dX2_init_1 tb_255 tb_60 tb_61 h1 (by decide) ?_
  refine G_aload_n dX2_init_4 rfl ?_
  refine G_bipush dX2_init_5 (by decide +kernel) ?_
  refine G_putI dX2_init_7 fl_RX2_9 h2 rfl ?_
  exact G_retv dX2_init_10 trivial h3 kr
theorem k_X2_make_0 {Γ : Gm} {Ret : Option Value → Wd → Prop} {p0 p1 p2 p3 : Nat} {w : Wd} (km : G Γ m_X2_make Ret 0 0 8 [some (vR p0), some (vR p1), some (vR p2), some (vR p3), some (vI 0), none] [] (stI w p0 0 0)) (h1 : sh w p0 = some (.inr 2) := by assumption) : G Γ m_X2_make Ret 0 0 0 [some (vR p0), some (vR p1), some (vR p2), some (vR p3), none, none] [] w := by
  refine G_aload_n dX2_make_0 rfl ?_
  refine G_const dX2_make_1 ?_
  refine G_putI dX2_make_2 fl_RX2_15 h1 rfl ?_
  refine G_const dX2_make_5 ?_
  refine G_istore dX2_make_6 (by decide) rfl ?_
  exact km
theorem k_X2_make_8 {Γ : Gm} {Ret : Option Value → Wd → Prop} {a4 : Int} {p0 p1 p2 p3 : Nat} {o5 : Option Value} {w : Wd} (kt : 4 ≤ a4 → G Γ m_X2_make Ret 0 0 43 [some (vR p0), some (vR p1), some (vR p2), some (vR p3), some (vI a4), o5] [] w) (kf : ¬ (4 ≤ a4) → G Γ m_X2_make Ret 0 0 14 [some (vR p0), some (vR p1), some (vR p2), some (vR p3), some (vI a4), o5] [] w) (h1 : sm a4 := by omega) : G Γ m_X2_make Ret 0 0 8 [some (vR p0), some (vR p1), some (vR p2), some (vR p3), some (vI a4), o5] [] w := by
  refine G_iload dX2_make_8 rfl ?_
  refine G_const dX2_make_10 ?_
  exact G_icmp_ge dX2_make_11 (by decide) h1 (by decide) kt kf
theorem k_X2_make_43 {Γ : Gm} {Ret : Option Value → Wd → Prop} {p0 p1 p2 p3 : Nat} {o4 o5 : Option Value} {w : Wd} (km : G Γ m_X2_make Ret 0 0 52 [some (vR p0), some (vR p1), some (vR p2), some (vR p3), some (vI 0), o5] [] (stI w p0 2 (-4))) (h1 : sh w p0 = some (.inr 2) := by assumption) : G Γ m_X2_make Ret 0 0 43 [some (vR p0), some (vR p1), some (vR p2), some (vR p3), o4, o5] [] w := by
  refine G_aload_n dX2_make_43 rfl ?_
  refine G_bipush dX2_make_44 (by decide +kernel) ?_
  refine G_putI dX2_make_46 fl_RX2_9 h1 rfl ?_
  refine G_const dX2_make_49 ?_
  refine G_istore dX2_make_50 (by decide) rfl ?_
  exact km
theorem k_X2_make_14 {Γ : Gm} {Ret : Option Value → Wd → Prop} {a4 z1 : Int} {p0 p1 p2 p3 : Nat} {o5 : Option Value} {w : Wd} (c3 : SpP Γ m_X0_isFree [vR p2, vI a4] w z1) (kt : z1 = 0 → G Γ m_X2_make Ret 0 0 32 [some (vR p0), some (vR p1), some (vR p2), some (vR p3), some (vI a4), o5] [vI (wI w p0 0), vR p0] w) (kf : ¬ (z1 = 0) → G Γ m_X2_make Ret 0 0 28 [some (vR p0), some (vR p1), some (vR p2), some (vR p3), some (vI a4), o5] [vI (wI w p0 0), vR p0] w) (h1 : sh w p0 = some (.inr 2) := by assumption) (h2 : sh w p2 = some (.inr 0) := by assumption) (h4 : sm z1 := by omega) : G Γ m_X2_make Ret 0 0 14 [some (vR p0), some (vR p1), some (vR p2), some (vR p3), some (vI a4), o5] [] w := by
  refine G_aload_n dX2_make_14 rfl ?_
  refine G_dup dX2_make_15 rfl ?_
  refine G_getI dX2_make_16 fl_RX2_15 h1 rfl ?_
  refine G_aload_n dX2_make_19 rfl ?_
  refine G_iload dX2_make_20 rfl ?_
  refine G_VP (as := [vI a4]) (st := [vI (wI w p0 0), vR p0]) n0_X0_isFree dX2_make_22 ml_RX2_18 mc_X0_isFree rfl ⟨by decide, ⟨Nat.le_of_ble_eq_true rfl, Nat.le_of_ble_eq_true rfl⟩, Nat.le_of_ble_eq_true rfl⟩ h2 ⟨_, _, rfl⟩ c3 ?_
  exact G_if_eq dX2_make_25 (by decide) h4 kt kf
theorem k_X2_make_52 {Γ : Gm} {Ret : Option Value → Wd → Prop} {a4 : Int} {p0 p1 p2 p3 : Nat} {o5 : Option Value} {w : Wd} (kt : (zshl 1 (2 * (wI w p0 0))) ≤ a4 → G Γ m_X2_make Ret 0 0 134 [some (vR p0), some (vR p1), some (vR p2), some (vR p3), some (vI a4), o5] [] w) (kf : ¬ ((zshl 1 (2 * (wI w p0 0))) ≤ a4) → G Γ m_X2_make Ret 0 0 65 [some (vR p0), some (vR p1), some (vR p2), some (vR p3), some (vI a4), o5] [] w) (h1 : sh w p0 = some (.inr 2) := by assumption) (h2 : sm a4 := by omega) : G Γ m_X2_make Ret 0 0 52 [some (vR p0), some (vR p1), some (vR p2), some (vR p3), some (vI a4), o5] [] w := by
  refine G_iload dX2_make_52 rfl ?_
  refine G_const dX2_make_54 ?_
  refine G_const dX2_make_55 ?_
  refine G_aload_n dX2_make_56 rfl ?_
  refine G_getI dX2_make_57 fl_RX2_15 h1 rfl ?_
  refine G_imul dX2_make_60 ?_
  refine G_ishl dX2_make_61 ?_
  exact G_icmp_ge dX2_make_62 (by decide) h2 (sm_of _) kt kf
theorem k_X2_make_32 {Γ : Gm} {Ret : Option Value → Wd → Prop} {a4 s1 : Int} {p0 p1 p2 p3 t0 : Nat} {o5 : Option Value} {w : Wd} (km : G Γ m_X2_make Ret 0 0 8 [some (vR p0), some (vR p1), some (vR p2), some (vR p3), some (vI (a4 + 1)), o5] [] (stI w t0 0 (s1 + 0))) (h1 : sh w t0 = some (.inr 2) := by assumption) : G Γ m_X2_make Ret 0 0 32 [some (vR p0), some (vR p1), some (vR p2), some (vR p3), some (vI a4), o5] [vI s1, vR t0] w := by
  refine G_const dX2_make_32 ?_
  refine G_iadd dX2_make_33 ?_
  refine G_putI dX2_make_34 fl_RX2_15 h1 rfl ?_
  refine G_iinc dX2_make_37 (by decide) rfl rfl ?_
  refine G_goto dX2_make_40 (tgt := 8) (by decide) ?_
  exact km
theorem k_X2_make_28 {Γ : Gm} {Ret : Option Value → Wd → Prop} {a4 s1 : Int} {p0 p1 p2 p3 t0 : Nat} {o5 : Option Value} {w : Wd} (km : G Γ m_X2_make Ret 0 0 8 [some (vR p0), some (vR p1), some (vR p2), some (vR p3), some (vI (a4 + 1)), o5] [] (stI w t0 0 (s1 + 1))) (h1 : sh w t0 = some (.inr 2) := by assumption) : G Γ m_X2_make Ret 0 0 28 [some (vR p0), some (vR p1), some (vR p2), some (vR p3), some (vI a4), o5] [vI s1, vR t0] w := by
  refine G_const dX2_make_28 ?_
  refine G_goto dX2_make_29 (tgt := 33) (by decide) ?_
  refine G_iadd dX2_make_33 ?_
  refine G_putI dX2_make_34 fl_RX2_15 h1 rfl ?_
  refine G_iinc dX2_make_37 (by decide) rfl rfl ?_
  refine G_goto dX2_make_40 (tgt := 8) (by decide) ?_
  exact km
theorem k_X2_make_134 {Γ : Gm} {Ret : Option Value → Wd → Prop} {o0 o1 o2 o3 o4 o5 : Option Value} {w : Wd} (kr : Ret none w) : G Γ m_X2_make Ret 0 0 134 [o0, o1, o2, o3, o4, o5] [] w := by
  exact G_retv dX2_make_134 trivial ⟨rfl, Nat.le_of_ble_eq_true rfl⟩ kr
theorem k_X2_make_65 {Γ : Gm} {Ret : Option Value → Wd → Prop} {a4 z1 : Int} {p0 p1 p2 p3 : Nat} {o5 : Option Value} {w : Wd} (c2 : SpP Γ m_X2_isOrder [vR p0, vR p2, vI a4] w z1) (kt : z1 = 0 → G Γ m_X2_make Ret 0 0 87 [some (vR p0), some (vR p1), some (vR p2), some (vR p3), some (vI a4), o5] [] w) (kf : ¬ (z1 = 0) → G Γ m_X2_make Ret 0 0 75 [some (vR p0), some (vR p1), some (vR p2), some (vR p3), some (vI a4), o5] [] w) (h1 : sh w p0 = some (.inr 2) := by assumption) (h3 : sm z1 := by omega) : G Γ m_X2_make Ret 0 0 65 [some (vR p0), some (vR p1), some (vR p2), some (vR p3), some (vI a4), o5] [] w := by
  refine G_aload_n dX2_make_65 rfl ?_
  refine G_aload_n dX2_make_66 rfl ?_
  refine G_iload dX2_make_67 rfl ?_
  refine G_VP (as := [vR p2, vI a4]) (st := []) n0_X2_isOrder dX2_make_69 ml_RX2_24 mc_X2_isOrder rfl ⟨by decide, ⟨Nat.le_of_ble_eq_true rfl, Nat.le_of_ble_eq_true rfl⟩, Nat.le_of_ble_eq_true rfl⟩ h1 ⟨_, _, rfl⟩ c2 ?_
  exact G_if_eq dX2_make_72 (by decide) h3 kt kf
theorem k_X2_make_87 {Γ : Gm} {Ret : Option Value → Wd → Prop} {a4 : Int} {p0 p1 p2 p3 : Nat} {o5 : Option Value} {w : Wd} (km : G Γ m_X2_make Ret 0 0 52 [some (vR p0), some (vR p1), some (vR p2), some (vR p3), some (vI (a4 + 1)), some (vI (-4))] [] w) : G Γ m_X2_make Ret 0 0 87 [some (vR p0), some (vR p1), some (vR p2), some (vR p3), some (vI a4), o5] [] w := by
  refine G_bipush dX2_make_87 (by decide +kernel) ?_
  refine G_istore dX2_make_89 (by decide) rfl ?_
  refine G_iload dX2_make_91 rfl ?_
  refine G_bipush dX2_make_93 (by decide +kernel) ?_
  refine G_icmp_eq dX2_make_95 (tgt := 128) (by decide) (by decide) (by decide) (fun _ => ?_) (fun h => absurd h (by decide))
  refine G_iinc dX2_make_128 (by decide) rfl rfl ?_
  refine G_goto dX2_make_131 (tgt := 52) (by decide) ?_
  exact km
theorem k_X2_make_75 {Γ : Gm} {Ret : Option Value → Wd → Prop} {a4 : Int} {p0 p1 p2 p3 : Nat} {o5 : Option Value} {w : Wd} {Q : Int → Wd → Prop} (c2 : SpI Γ m_X2_kicksOf [vR p0, vR p1, vR p2, vR p3, vI a4] w Q) (kq : ∀ (z : Int) (u : Wd), Q z u → G Γ m_X2_make Ret 0 0 84 [some (vR p0), some (vR p1), some (vR p2), some (vR p3), some (vI a4), o5] [vI z] u) (h1 : sh w p0 = some (.inr 2) := by assumption) : G Γ m_X2_make Ret 0 0 75 [some (vR p0), some (vR p1), some (vR p2), some (vR p3), some (vI a4), o5] [] w := by
  refine G_aload_n dX2_make_75 rfl ?_
  refine G_aload_n dX2_make_76 rfl ?_
  refine G_aload_n dX2_make_77 rfl ?_
  refine G_aload_n dX2_make_78 rfl ?_
  refine G_iload dX2_make_79 rfl ?_
  exact G_VI (as := [vR p1, vR p2, vR p3, vI a4]) (st := []) n0_X2_kicksOf dX2_make_81 ml_RX2_28 mc_X2_kicksOf rfl ⟨by decide, ⟨Nat.le_of_ble_eq_true rfl, Nat.le_of_ble_eq_true rfl⟩, Nat.le_of_ble_eq_true rfl⟩ h1 ⟨_, _, rfl⟩ c2 (fun z u hq => kq z u hq)
theorem k_X2_make_84 {Γ : Gm} {Ret : Option Value → Wd → Prop} {a4 s0 : Int} {p0 p1 p2 p3 : Nat} {o5 : Option Value} {w : Wd} (kt : s0 = (-4) → G Γ m_X2_make Ret 0 0 128 [some (vR p0), some (vR p1), some (vR p2), some (vR p3), some (vI a4), some (vI s0)] [] w) (kf : ¬ (s0 = (-4)) → G Γ m_X2_make Ret 0 0 98 [some (vR p0), some (vR p1), some (vR p2), some (vR p3), some (vI a4), some (vI s0)] [] w) (h1 : sm s0 := by omega) : G Γ m_X2_make Ret 0 0 84 [some (vR p0), some (vR p1), some (vR p2), some (vR p3), some (vI a4), o5] [vI s0] w := by
  refine G_goto dX2_make_84 (tgt := 89) (by decide) ?_
  refine G_istore dX2_make_89 (by decide) rfl ?_
  refine G_iload dX2_make_91 rfl ?_
  refine G_bipush dX2_make_93 (by decide +kernel) ?_
  exact G_icmp_eq dX2_make_95 (by decide) h1 (by decide) kt kf
theorem k_X2_make_128 {Γ : Gm} {Ret : Option Value → Wd → Prop} {a4 : Int} {p0 p1 p2 p3 : Nat} {o5 : Option Value} {w : Wd} (km : G Γ m_X2_make Ret 0 0 52 [some (vR p0), some (vR p1), some (vR p2), some (vR p3), some (vI (a4 + 1)), o5] [] w) : G Γ m_X2_make Ret 0 0 128 [some (vR p0), some (vR p1), some (vR p2), some (vR p3), some (vI a4), o5] [] w := by
  refine G_iinc dX2_make_128 (by decide) rfl rfl ?_
  refine G_goto dX2_make_131 (tgt := 52) (by decide) ?_
  exact km
theorem k_X2_make_98 {Γ : Gm} {Ret : Option Value → Wd → Prop} {a4 a5 : Int} {p0 p1 p2 p3 : Nat} {w : Wd} (kt : (wI w p0 2) = (-4) → G Γ m_X2_make Ret 0 0 116 [some (vR p0), some (vR p1), some (vR p2), some (vR p3), some (vI a4), some (vI a5)] [] w) (kf : ¬ ((wI w p0 2) = (-4)) → G Γ m_X2_make Ret 0 0 107 [some (vR p0), some (vR p1), some (vR p2), some (vR p3), some (vI a4), some (vI a5)] [] w) (h1 : sh w p0 = some (.inr 2) := by assumption) (h2 : sm (wI w p0 2) := by omega) : G Γ m_X2_make Ret 0 0 98 [some (vR p0), some (vR p1), some (vR p2), some (vR p3), some (vI a4), some (vI a5)] [] w := by
  refine G_aload_n dX2_make_98 rfl ?_
  refine G_getI dX2_make_99 fl_RX2_9 h1 rfl ?_
  refine G_bipush dX2_make_102 (by decide +kernel) ?_
  exact G_icmp_eq dX2_make_104 (by decide) h2 (by decide) kt kf
theorem k_X2_make_116 {Γ : Gm} {Ret : Option Value → Wd → Prop} {a4 a5 : Int} {p0 p1 p2 p3 : Nat} {w : Wd} (km : G Γ m_X2_make Ret 0 0 52 [some (vR p0), some (vR p1), some (vR p2), some (vR p3), some (vI (a4 + 1)), some (vI a5)] [] (stI (stI w p0 2 a5) p0 1 a4)) (h1 : sh w p0 = some (.inr 2) := by assumption) : G Γ m_X2_make Ret 0 0 116 [some (vR p0), some (vR p1), some (vR p2), some (vR p3), some (vI a4), some (vI a5)] [] w := by
  refine G_aload_n dX2_make_116 rfl ?_
  refine G_iload dX2_make_117 rfl ?_
  refine G_putI dX2_make_119 fl_RX2_9 h1 rfl ?_
  refine G_aload_n dX2_make_122 rfl ?_
  refine G_iload dX2_make_123 rfl ?_
  refine G_putI dX2_make_125 fl_RX2_32 h1 rfl ?_
  refine G_iinc dX2_make_128 (by decide) rfl rfl ?_
  refine G_goto dX2_make_131 (tgt := 52) (by decide) ?_
  exact km
theorem k_X2_make_107 {Γ : Gm} {Ret : Option Value → Wd → Prop} {a4 a5 : Int} {p0 p1 p2 p3 : Nat} {w : Wd} (kt : (wI w p0 2) ≤ a5 → G Γ m_X2_make Ret 0 0 128 [some (vR p0), some (vR p1), some (vR p2), some (vR p3), some (vI a4), some (vI a5)] [] w) (kf : ¬ ((wI w p0 2) ≤ a5) → G Γ m_X2_make Ret 0 0 116 [some (vR p0), some (vR p1), some (vR p2), some (vR p3), some (vI a4), some (vI a5)] [] w) (h1 : sh w p0 = some (.inr 2) := by assumption) (h2 : sm a5 := by omega) (h3 : sm (wI w p0 2) := by omega) : G Γ m_X2_make Ret 0 0 107 [some (vR p0), some (vR p1), some (vR p2), some (vR p3), some (vI a4), some (vI a5)] [] w := by
  refine G_iload dX2_make_107 rfl ?_
  refine G_aload_n dX2_make_109 rfl ?_
  refine G_getI dX2_make_110 fl_RX2_9 h1 rfl ?_
  exact G_icmp_ge dX2_make_113 (by decide) h2 h3 kt kf
theorem k_X2_wallIn_0 {Γ : Gm} {Ret : Option Value → Wd → Prop} {a1 a2 : Int} {p0 : Nat} {w : Wd} (kr : Ret (some (vI (zand (zshr a1 (2 * (((wI w p0 0) - 1) - a2))) 3))) w) (h1 : sh w p0 = some (.inr 2) := by assumption) : G Γ m_X2_wallIn Ret 0 0 0 [some (vR p0), some (vI a1), some (vI a2)] [] w := by
  refine G_iload_n dX2_wallIn_0 rfl ?_
  refine G_const dX2_wallIn_1 ?_
  refine G_aload_n dX2_wallIn_2 rfl ?_
  refine G_getI dX2_wallIn_3 fl_RX2_15 h1 rfl ?_
  refine G_const dX2_wallIn_6 ?_
  refine G_isub dX2_wallIn_7 ?_
  refine G_iload_n dX2_wallIn_8 rfl ?_
  refine G_isub dX2_wallIn_9 ?_
  refine G_imul dX2_wallIn_10 ?_
  refine G_ishr dX2_wallIn_11 ?_
  refine G_const dX2_wallIn_12 ?_
  refine G_iand dX2_wallIn_13 ?_
  exact G_reti dX2_wallIn_14 trivial ⟨rfl, Nat.le_of_ble_eq_true rfl⟩ kr
theorem k_X2_isOrder_0 {Γ : Gm} {Ret : Option Value → Wd → Prop} {a2 : Int} {p0 p1 : Nat} {w : Wd} (km : G Γ m_X2_isOrder Ret 0 0 5 [some (vR p0), some (vR p1), some (vI a2), some (vI 0), some (vI 0), none] [] w) : G Γ m_X2_isOrder Ret 0 0 0 [some (vR p0), some (vR p1), some (vI a2), none, none, none] [] w := by
  refine G_const dX2_isOrder_0 ?_
  refine G_istore_n dX2_isOrder_1 (by decide) rfl ?_
  refine G_const dX2_isOrder_2 ?_
  refine G_istore dX2_isOrder_3 (by decide) rfl ?_
  exact km
theorem k_X2_isOrder_5 {Γ : Gm} {Ret : Option Value → Wd → Prop} {a2 a3 a4 : Int} {p0 p1 : Nat} {o5 : Option Value} {w : Wd} (kt : (wI w p0 0) ≤ a4 → G Γ m_X2_isOrder Ret 0 0 57 [some (vR p0), some (vR p1), some (vI a2), some (vI a3), some (vI a4), o5] [] w) (kf : ¬ ((wI w p0 0) ≤ a4) → G Γ m_X2_isOrder Ret 0 0 14 [some (vR p0), some (vR p1), some (vI a2), some (vI a3), some (vI a4), o5] [] w) (h1 : sh w p0 = some (.inr 2) := by assumption) (h2 : sm a4 := by omega) (h3 : sm (wI w p0 0) := by omega) : G Γ m_X2_isOrder Ret 0 0 5 [some (vR p0), some (vR p1), some (vI a2), some (vI a3), some (vI a4), o5] [] w := by
  refine G_iload dX2_isOrder_5 rfl ?_
  refine G_aload_n dX2_isOrder_7 rfl ?_
  refine G_getI dX2_isOrder_8 fl_RX2_15 h1 rfl ?_
  exact G_icmp_ge dX2_isOrder_11 (by decide) h2 h3 kt kf
theorem k_X2_isOrder_57 {Γ : Gm} {Ret : Option Value → Wd → Prop} {o0 o1 o2 o3 o4 o5 : Option Value} {w : Wd} (kr : Ret (some (vI 1)) w) : G Γ m_X2_isOrder Ret 0 0 57 [o0, o1, o2, o3, o4, o5] [] w := by
  refine G_const dX2_isOrder_57 ?_
  exact G_reti dX2_isOrder_58 (Or.inr rfl) ⟨rfl, Nat.le_of_ble_eq_true rfl⟩ kr
theorem k_X2_isOrder_14 {Γ : Gm} {Ret : Option Value → Wd → Prop} {a2 a3 a4 z1 z2 : Int} {p0 p1 : Nat} {o5 : Option Value} {w : Wd} (c2 : SpP Γ m_X2_wallIn [vR p0, vI a2, vI a4] w z1) (c4 : SpP Γ m_X0_isFree [vR p1, vI z1] w z2) (kt : z2 = 0 → G Γ m_X2_isOrder Ret 0 0 42 [some (vR p0), some (vR p1), some (vI a2), some (vI a3), some (vI a4), some (vI z1)] [] w) (kf : ¬ (z2 = 0) → G Γ m_X2_isOrder Ret 0 0 32 [some (vR p0), some (vR p1), some (vI a2), some (vI a3), some (vI a4), some (vI z1)] [] w) (h1 : sh w p0 = some (.inr 2) := by assumption) (h3 : sh w p1 = some (.inr 0) := by assumption) (h5 : sm z2 := by omega) : G Γ m_X2_isOrder Ret 0 0 14 [some (vR p0), some (vR p1), some (vI a2), some (vI a3), some (vI a4), o5] [] w := by
  refine G_aload_n dX2_isOrder_14 rfl ?_
  refine G_iload_n dX2_isOrder_15 rfl ?_
  refine G_iload dX2_isOrder_16 rfl ?_
  refine G_VP (as := [vI a2, vI a4]) (st := []) n0_X2_wallIn dX2_isOrder_18 ml_RX2_35 mc_X2_wallIn rfl ⟨by decide, ⟨Nat.le_of_ble_eq_true rfl, Nat.le_of_ble_eq_true rfl⟩, Nat.le_of_ble_eq_true rfl⟩ h1 ⟨_, _, rfl⟩ c2 ?_
  refine G_istore dX2_isOrder_21 (by decide) rfl ?_
  refine G_aload_n dX2_isOrder_23 rfl ?_
  refine G_iload dX2_isOrder_24 rfl ?_
  refine G_VP (as := [vI z1]) (st := []) n0_X0_isFree dX2_isOrder_26 ml_RX2_18 mc_X0_isFree rfl ⟨by decide, ⟨Nat.le_of_ble_eq_true rfl, Nat.le_of_ble_eq_true rfl⟩, Nat.le_of_ble_eq_true rfl⟩ h3 ⟨_, _, rfl⟩ c4 ?_
  exact G_if_eq dX2_isOrder_29 (by decide) h5 kt kf
theorem k_X2_isOrder_42 {Γ : Gm} {Ret : Option Value → Wd → Prop} {o0 o1 o2 o3 o4 o5 : Option Value} {w : Wd} (kr : Ret (some (vI 0)) w) : G Γ m_X2_isOrder Ret 0 0 42 [o0, o1, o2, o3, o4, o5] [] w := by
  refine G_const dX2_isOrder_42 ?_
  exact G_reti dX2_isOrder_43 (Or.inl rfl) ⟨rfl, Nat.le_of_ble_eq_true rfl⟩ kr
theorem k_X2_isOrder_32 {Γ : Gm} {Ret : Option Value → Wd → Prop} {a2 a3 a4 a5 : Int} {p0 p1 : Nat} {w : Wd} (kt : (zand (zshr a3 a5) 1) ≠ 1 → G Γ m_X2_isOrder Ret 0 0 44 [some (vR p0), some (vR p1), some (vI a2), some (vI a3), some (vI a4), some (vI a5)] [] w) (kf : (zand (zshr a3 a5) 1) = 1 → G Γ m_X2_isOrder Ret 0 0 42 [some (vR p0), some (vR p1), some (vI a2), some (vI a3), some (vI a4), some (vI a5)] [] w) : G Γ m_X2_isOrder Ret 0 0 32 [some (vR p0), some (vR p1), some (vI a2), some (vI a3), some (vI a4), some (vI a5)] [] w := by
  refine G_iload_n dX2_isOrder_32 rfl ?_
  refine G_iload dX2_isOrder_33 rfl ?_
  refine G_ishr dX2_isOrder_35 ?_
  refine G_const dX2_isOrder_36 ?_
  refine G_iand dX2_isOrder_37 ?_
  refine G_const dX2_isOrder_38 ?_
  exact G_icmp_ne dX2_isOrder_39 (by decide) (sm_of _) (by decide) kt kf
theorem k_X2_isOrder_44 {Γ : Gm} {Ret : Option Value → Wd → Prop} {a2 a3 a4 a5 : Int} {p0 p1 : Nat} {w : Wd} (km : G Γ m_X2_isOrder Ret 0 0 5 [some (vR p0), some (vR p1), some (vI a2), some (vI (zor a3 (zshl 1 a5))), some (vI (a4 + 1)), some (vI a5)] [] w) : G Γ m_X2_isOrder Ret 0 0 44 [some (vR p0), some (vR p1), some (vI a2), some (vI a3), some (vI a4), some (vI a5)] [] w := by
  refine G_iload_n dX2_isOrder_44 rfl ?_
  refine G_const dX2_isOrder_45 ?_
  refine G_iload dX2_isOrder_46 rfl ?_
  refine G_ishl dX2_isOrder_48 ?_
  refine G_ior dX2_isOrder_49 ?_
  refine G_istore_n dX2_isOrder_50 (by decide) rfl ?_
  refine G_iinc dX2_isOrder_51 (by decide) rfl rfl ?_
  refine G_goto dX2_isOrder_54 (tgt := 5) (by decide) ?_
  exact km
theorem k_X2_kicksOf_0 {Γ : Gm} {Ret : Option Value → Wd → Prop} {a4 : Int} {p0 p1 p2 p3 : Nat} {w : Wd} {Q : Wd → Prop} (c2 : SpV Γ m_X0_copyFrom [vR p3, vR p2] w Q) (kq : ∀ u : Wd, Q u → G Γ m_X2_kicksOf Ret 0 0 5 [some (vR p0), some (vR p1), some (vR p2), some (vR p3), some (vI a4), none, none, none, none, none] [] u) (h1 : sh w p3 = some (.inr 0) := by assumption) : G Γ m_X2_kicksOf Ret 0 0 0 [some (vR p0), some (vR p1), some (vR p2), some (vR p3), some (vI a4), none, none, none, none, none] [] w := by
  refine G_aload_n dX2_kicksOf_0 rfl ?_
  refine G_aload_n dX2_kicksOf_1 rfl ?_
  exact G_VV (as := [vR p2]) (st := []) n0_X0_copyFrom dX2_kicksOf_2 ml_RX2_39 mc_X0_copyFrom rfl ⟨by decide, ⟨Nat.le_of_ble_eq_true rfl, Nat.le_of_ble_eq_true rfl⟩, Nat.le_of_ble_eq_true rfl⟩ h1 ⟨_, _, rfl⟩ c2 (fun u hq => kq u hq)
theorem k_X2_kicksOf_5 {Γ : Gm} {Ret : Option Value → Wd → Prop} {a4 : Int} {p0 p1 p3 : Nat} {o2 o5 o6 o7 o8 o9 : Option Value} {w : Wd} (km : G Γ m_X2_kicksOf Ret 0 0 11 [some (vR p0), some (vR p1), o2, some (vR p3), some (vI a4), some (vI 0), some (vI 0), o7, o8, o9] [] w) : G Γ m_X2_kicksOf Ret 0 0 5 [some (vR p0), some (vR p1), o2, some (vR p3), some (vI a4), o5, o6, o7, o8, o9] [] w := by
  refine G_const dX2_kicksOf_5 ?_
  refine G_istore dX2_kicksOf_6 (by decide) rfl ?_
  refine G_const dX2_kicksOf_8 ?_
  refine G_istore dX2_kicksOf_9 (by decide) rfl ?_
  exact km
theorem k_X2_kicksOf_11 {Γ : Gm} {Ret : Option Value → Wd → Prop} {a4 a5 a6 : Int} {p0 p1 p3 : Nat} {o2 o7 o8 o9 : Option Value} {w : Wd} (kt : (wI w p0 0) ≤ a6 → G Γ m_X2_kicksOf Ret 0 0 88 [some (vR p0), some (vR p1), o2, some (vR p3), some (vI a4), some (vI a5), some (vI a6), o7, o8, o9] [] w) (kf : ¬ ((wI w p0 0) ≤ a6) → G Γ m_X2_kicksOf Ret 0 0 20 [some (vR p0), some (vR p1), o2, some (vR p3), some (vI a4), some (vI a5), some (vI a6), o7, o8, o9] [] w) (h1 : sh w p0 = some (.inr 2) := by assumption) (h2 : sm a6 := by omega) (h3 : sm (wI w p0 0) := by omega) : G Γ m_X2_kicksOf Ret 0 0 11 [some (vR p0), some (vR p1), o2, some (vR p3), some (vI a4), some (vI a5), some (vI a6), o7, o8, o9] [] w := by
  refine G_iload dX2_kicksOf_11 rfl ?_
  refine G_aload_n dX2_kicksOf_13 rfl ?_
  refine G_getI dX2_kicksOf_14 fl_RX2_15 h1 rfl ?_
  exact G_icmp_ge dX2_kicksOf_17 (by decide) h2 h3 kt kf
theorem k_X2_kicksOf_88 {Γ : Gm} {Ret : Option Value → Wd → Prop} {a5 : Int} {o0 o1 o2 o3 o4 o6 o7 o8 o9 : Option Value} {w : Wd} (kr : Ret (some (vI a5)) w) : G Γ m_X2_kicksOf Ret 0 0 88 [o0, o1, o2, o3, o4, some (vI a5), o6, o7, o8, o9] [] w := by
  refine G_iload dX2_kicksOf_88 rfl ?_
  exact G_reti dX2_kicksOf_90 trivial ⟨rfl, Nat.le_of_ble_eq_true rfl⟩ kr
theorem k_X2_kicksOf_20 {Γ : Gm} {Ret : Option Value → Wd → Prop} {a4 a5 a6 z1 : Int} {p0 p1 p3 : Nat} {o2 o7 o8 o9 : Option Value} {w : Wd} (c2 : SpP Γ m_X2_wallIn [vR p0, vI a4, vI a6] w z1) (kt : (wI w p3 5) ≠ 0 → G Γ m_X2_kicksOf Ret 0 0 41 [some (vR p0), some (vR p1), o2, some (vR p3), some (vI a4), some (vI a5), some (vI a6), some (vI z1), o8, o9] [] w) (kf : (wI w p3 5) = 0 → G Γ m_X2_kicksOf Ret 0 0 37 [some (vR p0), some (vR p1), o2, some (vR p3), some (vI a4), some (vI a5), some (vI a6), some (vI z1), o8, o9] [] w) (h1 : sh w p0 = some (.inr 2) := by assumption) (h3 : sh w p3 = some (.inr 0) := by assumption) (h4 : sm (wI w p3 5) := by omega) : G Γ m_X2_kicksOf Ret 0 0 20 [some (vR p0), some (vR p1), o2, some (vR p3), some (vI a4), some (vI a5), some (vI a6), o7, o8, o9] [] w := by
  refine G_aload_n dX2_kicksOf_20 rfl ?_
  refine G_iload dX2_kicksOf_21 rfl ?_
  refine G_iload dX2_kicksOf_23 rfl ?_
  refine G_VP (as := [vI a4, vI a6]) (st := []) n0_X2_wallIn dX2_kicksOf_25 ml_RX2_35 mc_X2_wallIn rfl ⟨by decide, ⟨Nat.le_of_ble_eq_true rfl, Nat.le_of_ble_eq_true rfl⟩, Nat.le_of_ble_eq_true rfl⟩ h1 ⟨_, _, rfl⟩ c2 ?_
  refine G_istore dX2_kicksOf_28 (by decide) rfl ?_
  refine G_aload_n dX2_kicksOf_30 rfl ?_
  refine G_getI dX2_kicksOf_31 fl_RX2_43 h3 rfl ?_
  exact G_if_ne dX2_kicksOf_34 (by decide) h4 kt kf
theorem k_X2_kicksOf_41 {Γ : Gm} {Ret : Option Value → Wd → Prop} {a4 a5 a6 a7 z1 : Int} {p0 p1 p3 : Nat} {o2 o8 o9 : Option Value} {w : Wd} (c2 : SpP Γ m_X0_leastKick [vR p3, vR p1, vI a7, vI 4] w z1) (kt : z1 ≠ (-4) → G Γ m_X2_kicksOf Ret 0 0 65 [some (vR p0), some (vR p1), o2, some (vR p3), some (vI a4), some (vI a5), some (vI a6), some (vI a7), some (vI 4), some (vI z1)] [] w) (kf : z1 = (-4) → G Γ m_X2_kicksOf Ret 0 0 62 [some (vR p0), some (vR p1), o2, some (vR p3), some (vI a4), some (vI a5), some (vI a6), some (vI a7), some (vI 4), some (vI z1)] [] w) (h1 : sh w p3 = some (.inr 0) := by assumption) (h3 : sm z1 := by omega) : G Γ m_X2_kicksOf Ret 0 0 41 [some (vR p0), some (vR p1), o2, some (vR p3), some (vI a4), some (vI a5), some (vI a6), some (vI a7), o8, o9] [] w := by
  refine G_const dX2_kicksOf_41 ?_
  refine G_istore dX2_kicksOf_42 (by decide) rfl ?_
  refine G_aload_n dX2_kicksOf_44 rfl ?_
  refine G_aload_n dX2_kicksOf_45 rfl ?_
  refine G_iload dX2_kicksOf_46 rfl ?_
  refine G_iload dX2_kicksOf_48 rfl ?_
  refine G_VP (as := [vR p1, vI a7, vI 4]) (st := []) n0_X0_leastKick dX2_kicksOf_50 ml_RX2_46 mc_X0_leastKick rfl ⟨by decide, ⟨Nat.le_of_ble_eq_true rfl, Nat.le_of_ble_eq_true rfl⟩, Nat.le_of_ble_eq_true rfl⟩ h1 ⟨_, _, rfl⟩ c2 ?_
  refine G_istore dX2_kicksOf_53 (by decide) rfl ?_
  refine G_iload dX2_kicksOf_55 rfl ?_
  refine G_bipush dX2_kicksOf_57 (by decide +kernel) ?_
  exact G_icmp_ne dX2_kicksOf_59 (by decide) h3 (by decide) kt kf
theorem k_X2_kicksOf_37 {Γ : Gm} {Ret : Option Value → Wd → Prop} {a4 a5 a6 a7 z1 : Int} {p0 p1 p3 : Nat} {o2 o8 o9 : Option Value} {w : Wd} (c2 : SpP Γ m_X0_leastKick [vR p3, vR p1, vI a7, vI 2] w z1) (kt : z1 ≠ (-4) → G Γ m_X2_kicksOf Ret 0 0 65 [some (vR p0), some (vR p1), o2, some (vR p3), some (vI a4), some (vI a5), some (vI a6), some (vI a7), some (vI 2), some (vI z1)] [] w) (kf : z1 = (-4) → G Γ m_X2_kicksOf Ret 0 0 62 [some (vR p0), some (vR p1), o2, some (vR p3), some (vI a4), some (vI a5), some (vI a6), some (vI a7), some (vI 2), some (vI z1)] [] w) (h1 : sh w p3 = some (.inr 0) := by assumption) (h3 : sm z1 := by omega) : G Γ m_X2_kicksOf Ret 0 0 37 [some (vR p0), some (vR p1), o2, some (vR p3), some (vI a4), some (vI a5), some (vI a6), some (vI a7), o8, o9] [] w := by
  refine G_const dX2_kicksOf_37 ?_
  refine G_goto dX2_kicksOf_38 (tgt := 42) (by decide) ?_
  refine G_istore dX2_kicksOf_42 (by decide) rfl ?_
  refine G_aload_n dX2_kicksOf_44 rfl ?_
  refine G_aload_n dX2_kicksOf_45 rfl ?_
  refine G_iload dX2_kicksOf_46 rfl ?_
  refine G_iload dX2_kicksOf_48 rfl ?_
  refine G_VP (as := [vR p1, vI a7, vI 2]) (st := []) n0_X0_leastKick dX2_kicksOf_50 ml_RX2_46 mc_X0_leastKick rfl ⟨by decide, ⟨Nat.le_of_ble_eq_true rfl, Nat.le_of_ble_eq_true rfl⟩, Nat.le_of_ble_eq_true rfl⟩ h1 ⟨_, _, rfl⟩ c2 ?_
  refine G_istore dX2_kicksOf_53 (by decide) rfl ?_
  refine G_iload dX2_kicksOf_55 rfl ?_
  refine G_bipush dX2_kicksOf_57 (by decide +kernel) ?_
  exact G_icmp_ne dX2_kicksOf_59 (by decide) h3 (by decide) kt kf
theorem k_X2_kicksOf_65 {Γ : Gm} {Ret : Option Value → Wd → Prop} {a4 a5 a6 a7 a9 : Int} {p0 p1 p3 : Nat} {o2 o8 : Option Value} {w : Wd} {Q : Int → Wd → Prop} (c2 : SpI Γ m_X0_hookOn [vR p3, vR p1, vI a7, vI a9] w Q) (kq : ∀ (z : Int) (u : Wd), Q z u → G Γ m_X2_kicksOf Ret 0 0 74 [some (vR p0), some (vR p1), o2, some (vR p3), some (vI a4), some (vI a5), some (vI a6), some (vI a7), o8, some (vI a9)] [vI z] u) (h1 : sh w p3 = some (.inr 0) := by assumption) : G Γ m_X2_kicksOf Ret 0 0 65 [some (vR p0), some (vR p1), o2, some (vR p3), some (vI a4), some (vI a5), some (vI a6), some (vI a7), o8, some (vI a9)] [] w := by
  refine G_aload_n dX2_kicksOf_65 rfl ?_
  refine G_aload_n dX2_kicksOf_66 rfl ?_
  refine G_iload dX2_kicksOf_67 rfl ?_
  refine G_iload dX2_kicksOf_69 rfl ?_
  exact G_VI (as := [vR p1, vI a7, vI a9]) (st := []) n0_X0_hookOn dX2_kicksOf_71 ml_RX2_50 mc_X0_hookOn rfl ⟨by decide, ⟨Nat.le_of_ble_eq_true rfl, Nat.le_of_ble_eq_true rfl⟩, Nat.le_of_ble_eq_true rfl⟩ h1 ⟨_, _, rfl⟩ c2 (fun z u hq => kq z u hq)
theorem k_X2_kicksOf_62 {Γ : Gm} {Ret : Option Value → Wd → Prop} {o0 o1 o2 o3 o4 o5 o6 o7 o8 o9 : Option Value} {w : Wd} (kr : Ret (some (vI (-4))) w) : G Γ m_X2_kicksOf Ret 0 0 62 [o0, o1, o2, o3, o4, o5, o6, o7, o8, o9] [] w := by
  refine G_bipush dX2_kicksOf_62 (by decide +kernel) ?_
  exact G_reti dX2_kicksOf_64 trivial ⟨rfl, Nat.le_of_ble_eq_true rfl⟩ kr
theorem k_X2_kicksOf_74 {Γ : Gm} {Ret : Option Value → Wd → Prop} {a4 a5 a6 a9 s0 : Int} {p0 p1 p3 : Nat} {o2 o7 o8 : Option Value} {w : Wd} (km : G Γ m_X2_kicksOf Ret 0 0 11 [some (vR p0), some (vR p1), o2, some (vR p3), some (vI a4), some (vI (a5 + a9)), some (vI (a6 + 1)), o7, o8, some (vI a9)] [] w) : G Γ m_X2_kicksOf Ret 0 0 74 [some (vR p0), some (vR p1), o2, some (vR p3), some (vI a4), some (vI a5), some (vI a6), o7, o8, some (vI a9)] [vI s0] w := by
  refine G_pop dX2_kicksOf_74 rfl ?_
  refine G_iload dX2_kicksOf_75 rfl ?_
  refine G_iload dX2_kicksOf_77 rfl ?_
  refine G_iadd dX2_kicksOf_79 ?_
  refine G_istore dX2_kicksOf_80 (by decide) rfl ?_
  refine G_iinc dX2_kicksOf_82 (by decide) rfl rfl ?_
  refine G_goto dX2_kicksOf_85 (tgt := 11) (by decide) ?_
  exact km
theorem k_X2_wallAt_0 {Γ : Gm} {Ret : Option Value → Wd → Prop} {a1 : Int} {p0 : Nat} {w : Wd} (kt : (wI w p0 2) = (-4) → G Γ m_X2_wallAt Ret 0 0 29 [some (vR p0), some (vI a1)] [] w) (kf : ¬ ((wI w p0 2) = (-4)) → G Γ m_X2_wallAt Ret 0 0 9 [some (vR p0), some (vI a1)] [] w) (h1 : sh w p0 = some (.inr 2) := by assumption) (h2 : sm (wI w p0 2) := by omega) : G Γ m_X2_wallAt Ret 0 0 0 [some (vR p0), some (vI a1)] [] w := by
  refine G_aload_n dX2_wallAt_0 rfl ?_
  refine G_getI dX2_wallAt_1 fl_RX2_9 h1 rfl ?_
  refine G_bipush dX2_wallAt_4 (by decide +kernel) ?_
  exact G_icmp_eq dX2_wallAt_6 (by decide) h2 (by decide) kt kf
theorem k_X2_wallAt_29 {Γ : Gm} {Ret : Option Value → Wd → Prop} {o0 o1 : Option Value} {w : Wd} (kr : Ret (some (vI (-4))) w) : G Γ m_X2_wallAt Ret 0 0 29 [o0, o1] [] w := by
  refine G_bipush dX2_wallAt_29 (by decide +kernel) ?_
  exact G_reti dX2_wallAt_31 trivial ⟨rfl, Nat.le_of_ble_eq_true rfl⟩ kr
theorem k_X2_wallAt_9 {Γ : Gm} {Ret : Option Value → Wd → Prop} {a1 : Int} {p0 : Nat} {w : Wd} (kt : (wI w p0 0) ≤ a1 → G Γ m_X2_wallAt Ret 0 0 29 [some (vR p0), some (vI a1)] [] w) (kf : ¬ ((wI w p0 0) ≤ a1) → G Γ m_X2_wallAt Ret 0 0 17 [some (vR p0), some (vI a1)] [] w) (h1 : sh w p0 = some (.inr 2) := by assumption) (h2 : sm a1 := by omega) (h3 : sm (wI w p0 0) := by omega) : G Γ m_X2_wallAt Ret 0 0 9 [some (vR p0), some (vI a1)] [] w := by
  refine G_iload_n dX2_wallAt_9 rfl ?_
  refine G_aload_n dX2_wallAt_10 rfl ?_
  refine G_getI dX2_wallAt_11 fl_RX2_15 h1 rfl ?_
  exact G_icmp_ge dX2_wallAt_14 (by decide) h2 h3 kt kf
theorem k_X2_wallAt_17 {Γ : Gm} {Ret : Option Value → Wd → Prop} {a1 z1 : Int} {p0 : Nat} {w : Wd} (c2 : SpP Γ m_X2_wallIn [vR p0, vI (wI w p0 1), vI a1] w z1) (kr : Ret (some (vI z1)) w) (h1 : sh w p0 = some (.inr 2) := by assumption) : G Γ m_X2_wallAt Ret 0 0 17 [some (vR p0), some (vI a1)] [] w := by
  refine G_aload_n dX2_wallAt_17 rfl ?_
  refine G_aload_n dX2_wallAt_18 rfl ?_
  refine G_getI dX2_wallAt_19 fl_RX2_32 h1 rfl ?_
  refine G_iload_n dX2_wallAt_22 rfl ?_
  refine G_VP (as := [vI (wI w p0 1), vI a1]) (st := []) n0_X2_wallIn dX2_wallAt_23 ml_RX2_35 mc_X2_wallIn rfl ⟨by decide, ⟨Nat.le_of_ble_eq_true rfl, Nat.le_of_ble_eq_true rfl⟩, Nat.le_of_ble_eq_true rfl⟩ h1 ⟨_, _, rfl⟩ c2 ?_
  refine G_goto dX2_wallAt_26 (tgt := 31) (by decide) ?_
  exact G_reti dX2_wallAt_31 trivial ⟨rfl, Nat.le_of_ble_eq_true rfl⟩ kr
theorem k_X3_init_0 {Γ : Gm} {Ret : Option Value → Wd → Prop} {kc ks : Nat} {p0 : Nat} {w : Wd} (km : G Γ m_X3_init Ret (((kc + 1) + 1) + 1) (((ks + 12) + 12) + 12) 28 [some (vR p0)] [] (stR (nwW (stR (nwW (stR (nwW w) p0 0 (vR w.1))) p0 1 (vR (stR (nwW w) p0 0 (vR w.1)).1))) p0 2 (vR (stR (nwW (stR (nwW w) p0 0 (vR w.1))) p0 1 (vR (stR (nwW w) p0 0 (vR w.1)).1)).1))) (h1 : ∃ x, sh w p0 = some x := by exact ⟨_, by assumption⟩) (h2 : shp[w.1]? = some (.inl (0, 12)) := by assumption) (h3 : kc + 1 ≤ m_X3_init.2.2.2.2.cells ∧ ks + 12 ≤ m_X3_init.2.2.2.2.slots := by decide) (h4 : sh (nwW w) p0 = some (.inr 3) := by assumption) (h5 : shp[(stR (nwW w) p0 0 (vR w.1)).1]? = some (.inl (0, 12)) := by assumption) (h6 : (kc + 1) + 1 ≤ m_X3_init.2.2.2.2.cells ∧ (ks + 12) + 12 ≤ m_X3_init.2.2.2.2.slots := by decide) (h7 : sh (nwW (stR (nwW w) p0 0 (vR w.1))) p0 = some (.inr 3) := by assumption) (h8 : shp[(stR (nwW (stR (nwW w) p0 0 (vR w.1))) p0 1 (vR (stR (nwW w) p0 0 (vR w.1)).1)).1]? = some (.inl (0, 12)) := by assumption) (h9 : ((kc + 1) + 1) + 1 ≤ m_X3_init.2.2.2.2.cells ∧ ((ks + 12) + 12) + 12 ≤ m_X3_init.2.2.2.2.slots := by decide) (h10 : sh (nwW (stR (nwW (stR (nwW w) p0 0 (vR w.1))) p0 1 (vR (stR (nwW w) p0 0 (vR w.1)).1))) p0 = some (.inr 3) := by assumption) : G Γ m_X3_init Ret kc ks 0 [some (vR p0)] [] w := by
  refine G_aload_n dX3_init_0 rfl ?_
  refine G_obj dX3_init_1 tb_67 tb_60 tb_61 h1 (by decide) ?_
  refine G_aload_n dX3_init_4 rfl ?_
  refine G_bipush dX3_init_5 (by decide +kernel) ?_
  refine G_newarr (n := 12) (t := 0) (ty := .int) dX3_init_7 (by decide) rfl tb_125 h2 (by decide) h3 ?_
  refine G_putR (ty := (.array .int)) dX3_init_9 fl_RX3_9 h4 rfl (fun _ => ⟨rfl, _, _, rfl⟩) (by decide +kernel) (fun _ => rfl) (fun _ => rfl) ?_
  refine G_aload_n dX3_init_12 rfl ?_
  refine G_bipush dX3_init_13 (by decide +kernel) ?_
  refine G_newarr (n := 12) (t := 0) (ty := .int) dX3_init_15 (by decide) rfl tb_125 h5 (by decide) h6 ?_
  refine G_putR (ty := (.array .int)) dX3_init_17 fl_RX3_15 h7 rfl (fun _ => ⟨rfl, _, _, rfl⟩) (by decide +kernel) (fun _ => rfl) (fun _ => rfl) ?_
  refine G_aload_n dX3_init_20 rfl ?_
  refine G_bipush dX3_init_21 (by decide +kernel) ?_
  refine G_newarr (n := 12) (t := 0) (ty := .int) dX3_init_23 (by decide) rfl tb_125 h8 (by decide) h9 ?_
  refine G_putR (ty := (.array .int)) dX3_init_25 fl_RX3_18 h10 rfl (fun _ => ⟨rfl, _, _, rfl⟩) (by decide +kernel) (fun _ => rfl) (fun _ => rfl) ?_
  exact km
theorem k_X3_init_28 {Γ : Gm} {Ret : Option Value → Wd → Prop} {kc ks : Nat} {p0 : Nat} {w : Wd} {Q : Wd → Prop} (c9 : SpV Γ m_X3_clear [vR p0] (stR (nwW (stR (nwW w) p0 3 (vR w.1))) p0 4 (vR (stR (nwW w) p0 3 (vR w.1)).1)) Q) (kq : ∀ u : Wd, Q u → G Γ m_X3_init Ret ((kc + 1) + 1) ((ks + 12) + 3) 47 [some (vR p0)] [] u) (h1 : shp[w.1]? = some (.inl (0, 12)) := by assumption) (h2 : kc + 1 ≤ m_X3_init.2.2.2.2.cells ∧ ks + 12 ≤ m_X3_init.2.2.2.2.slots := by decide) (h3 : sh (nwW w) p0 = some (.inr 3) := by assumption) (h4 : shp[(stR (nwW w) p0 3 (vR w.1)).1]? = some (.inl (0, 3)) := by assumption) (h5 : (kc + 1) + 1 ≤ m_X3_init.2.2.2.2.cells ∧ (ks + 12) + 3 ≤ m_X3_init.2.2.2.2.slots := by decide) (h6 : sh (nwW (stR (nwW w) p0 3 (vR w.1))) p0 = some (.inr 3) := by assumption) (h7 : ((kc + 1) + 1) + m_X3_clear.2.2.2.2.cells ≤ m_X3_init.2.2.2.2.cells ∧ ((ks + 12) + 3) + m_X3_clear.2.2.2.2.slots ≤ m_X3_init.2.2.2.2.slots := by decide) (h8 : sh (stR (nwW (stR (nwW w) p0 3 (vR w.1))) p0 4 (vR (stR (nwW w) p0 3 (vR w.1)).1)) p0 = some (.inr 3) := by assumption) : G Γ m_X3_init Ret kc ks 28 [some (vR p0)] [] w := by
  refine G_aload_n dX3_init_28 rfl ?_
  refine G_bipush dX3_init_29 (by decide +kernel) ?_
  refine G_newarr (n := 12) (t := 0) (ty := .int) dX3_init_31 (by decide) rfl tb_125 h1 (by decide) h2 ?_
  refine G_putR (ty := (.array .int)) dX3_init_33 fl_RX3_21 h3 rfl (fun _ => ⟨rfl, _, _, rfl⟩) (by decide +kernel) (fun _ => rfl) (fun _ => rfl) ?_
  refine G_aload_n dX3_init_36 rfl ?_
  refine G_const dX3_init_37 ?_
  refine G_newarr (n := 3) (t := 0) (ty := .int) dX3_init_38 (by decide) rfl tb_125 h4 (by decide) h5 ?_
  refine G_putR (ty := (.array .int)) dX3_init_40 fl_RX3_24 h6 rfl (fun _ => ⟨rfl, _, _, rfl⟩) (by decide +kernel) (fun _ => rfl) (fun _ => rfl) ?_
  refine G_aload_n dX3_init_43 rfl ?_
  exact G_VV (as := []) (st := []) n0_X3_clear dX3_init_44 ml_RX3_27 mc_X3_clear rfl ⟨by decide, h7, Nat.le_of_ble_eq_true rfl⟩ h8 ⟨_, _, rfl⟩ c9 (fun u hq => kq u hq)
theorem k_X3_init_47 {Γ : Gm} {Ret : Option Value → Wd → Prop} {kc ks : Nat} {o0 : Option Value} {w : Wd} (kr : Ret none w) (h1 : kc = m_X3_init.2.2.2.2.cells ∧ ks ≤ m_X3_init.2.2.2.2.slots := by decide) : G Γ m_X3_init Ret kc ks 47 [o0] [] w := by
  exact G_retv dX3_init_47 trivial h1 kr
theorem k_X3_clear_0 {Γ : Gm} {Ret : Option Value → Wd → Prop} {p0 : Nat} {w : Wd} (kr : Ret none (stI (stI (stI (stI (stI (stI (stI (stI w p0 5 0) p0 6 0) p0 7 3) p0 8 60) p0 9 2) p0 10 12) p0 11 0) p0 12 3)) (h1 : sh w p0 = some (.inr 3) := by assumption) : G Γ m_X3_clear Ret 0 0 0 [some (vR p0)] [] w := by
  refine G_aload_n dX3_clear_0 rfl ?_
  refine G_const dX3_clear_1 ?_
  refine G_putI dX3_clear_2 fl_RX3_30 h1 rfl ?_
  refine G_aload_n dX3_clear_5 rfl ?_
  refine G_const dX3_clear_6 ?_
  refine G_putI dX3_clear_7 fl_RX3_34 h1 rfl ?_
  refine G_aload_n dX3_clear_10 rfl ?_
  refine G_const dX3_clear_11 ?_
  refine G_putI dX3_clear_12 fl_RX3_37 h1 rfl ?_
  refine G_aload_n dX3_clear_15 rfl ?_
  refine G_bipush dX3_clear_16 (by decide +kernel) ?_
  refine G_putI dX3_clear_18 fl_RX3_40 h1 rfl ?_
  refine G_aload_n dX3_clear_21 rfl ?_
  refine G_const dX3_clear_22 ?_
  refine G_putI dX3_clear_23 fl_RX3_43 h1 rfl ?_
  refine G_aload_n dX3_clear_26 rfl ?_
  refine G_bipush dX3_clear_27 (by decide +kernel) ?_
  refine G_putI dX3_clear_29 fl_RX3_46 h1 rfl ?_
  refine G_aload_n dX3_clear_32 rfl ?_
  refine G_const dX3_clear_33 ?_
  refine G_putI dX3_clear_34 fl_RX3_49 h1 rfl ?_
  refine G_aload_n dX3_clear_37 rfl ?_
  refine G_const dX3_clear_38 ?_
  refine G_putI dX3_clear_39 fl_RX3_52 h1 rfl ?_
  exact G_retv dX3_clear_42 trivial ⟨rfl, Nat.le_of_ble_eq_true rfl⟩ kr
theorem k_X3_readText_0 {Γ : Gm} {Ret : Option Value → Wd → Prop} {a2 : Int} {p0 p1 : Nat} {w : Wd} {Q : Wd → Prop} (c2 : SpV Γ m_X3_clear [vR p0] w Q) (kq : ∀ u : Wd, Q u → G Γ m_X3_readText Ret 0 0 4 [some (vR p0), some (vR p1), some (vI a2), none, none, none] [] u) (h1 : sh w p0 = some (.inr 3) := by assumption) : G Γ m_X3_readText Ret 0 0 0 [some (vR p0), some (vR p1), some (vI a2), none, none, none] [] w := by
  refine G_aload_n dX3_readText_0 rfl ?_
  exact G_VV (as := []) (st := []) n0_X3_clear dX3_readText_1 ml_RX3_27 mc_X3_clear rfl ⟨by decide, ⟨Nat.le_of_ble_eq_true rfl, Nat.le_of_ble_eq_true rfl⟩, Nat.le_of_ble_eq_true rfl⟩ h1 ⟨_, _, rfl⟩ c2 (fun u hq => kq u hq)
theorem k_X3_readText_4 {Γ : Gm} {Ret : Option Value → Wd → Prop} {a2 : Int} {p0 p1 : Nat} {o3 o4 o5 : Option Value} {w : Wd} (km : G Γ m_X3_readText Ret 0 0 9 [some (vR p0), some (vR p1), some (vI a2), some (vI 0), some (vI 0), o5] [] w) : G Γ m_X3_readText Ret 0 0 4 [some (vR p0), some (vR p1), some (vI a2), o3, o4, o5] [] w := by
  refine G_const dX3_readText_4 ?_
  refine G_istore_n dX3_readText_5 (by decide) rfl ?_
  refine G_const dX3_readText_6 ?_
  refine G_istore dX3_readText_7 (by decide) rfl ?_
  exact km
theorem k_X3_readText_9 {Γ : Gm} {Ret : Option Value → Wd → Prop} {a2 a3 a4 : Int} {p0 p1 : Nat} {o5 : Option Value} {w : Wd} (kt : a2 ≤ a4 → G Γ m_X3_readText Ret 0 0 60 [some (vR p0), some (vR p1), some (vI a2), some (vI a3), some (vI a4), o5] [] w) (kf : ¬ (a2 ≤ a4) → G Γ m_X3_readText Ret 0 0 15 [some (vR p0), some (vR p1), some (vI a2), some (vI a3), some (vI a4), o5] [] w) (h1 : sm a4 := by omega) (h2 : sm a2 := by omega) : G Γ m_X3_readText Ret 0 0 9 [some (vR p0), some (vR p1), some (vI a2), some (vI a3), some (vI a4), o5] [] w := by
  refine G_iload dX3_readText_9 rfl ?_
  refine G_iload_n dX3_readText_11 rfl ?_
  exact G_icmp_ge dX3_readText_12 (by decide) h1 h2 kt kf
theorem k_X3_readText_60 {Γ : Gm} {Ret : Option Value → Wd → Prop} {o0 o1 o2 o3 o4 o5 : Option Value} {w : Wd} (kr : Ret (some (vI (-4))) w) : G Γ m_X3_readText Ret 0 0 60 [o0, o1, o2, o3, o4, o5] [] w := by
  refine G_bipush dX3_readText_60 (by decide +kernel) ?_
  exact G_reti dX3_readText_62 trivial ⟨rfl, Nat.le_of_ble_eq_true rfl⟩ kr
theorem k_X3_readText_15 {Γ : Gm} {Ret : Option Value → Wd → Prop} {a2 a3 a4 : Int} {p0 p1 : Nat} {o5 : Option Value} {w : Wd} (kt : a2 ≤ a3 → G Γ m_X3_readText Ret 0 0 60 [some (vR p0), some (vR p1), some (vI a2), some (vI a3), some (vI a4), o5] [] w) (kf : ¬ (a2 ≤ a3) → G Γ m_X3_readText Ret 0 0 20 [some (vR p0), some (vR p1), some (vI a2), some (vI a3), some (vI a4), o5] [] w) (h1 : sm a3 := by omega) (h2 : sm a2 := by omega) : G Γ m_X3_readText Ret 0 0 15 [some (vR p0), some (vR p1), some (vI a2), some (vI a3), some (vI a4), o5] [] w := by
  refine G_iload_n dX3_readText_15 rfl ?_
  refine G_iload_n dX3_readText_16 rfl ?_
  exact G_icmp_ge dX3_readText_17 (by decide) h1 h2 kt kf
theorem k_X3_readText_20 {Γ : Gm} {Ret : Option Value → Wd → Prop} {a2 a3 a4 : Int} {p0 p1 : Nat} {o5 : Option Value} {w : Wd} {Q : Int → Wd → Prop} (c2 : SpI Γ m_X3_readNumbers [vR p0, vR p1, vI a2, vI a3] w Q) (kq : ∀ (z : Int) (u : Wd), Q z u → G Γ m_X3_readText Ret 0 0 27 [some (vR p0), some (vR p1), some (vI a2), some (vI a3), some (vI a4), o5] [vI z] u) (h1 : sh w p0 = some (.inr 3) := by assumption) : G Γ m_X3_readText Ret 0 0 20 [some (vR p0), some (vR p1), some (vI a2), some (vI a3), some (vI a4), o5] [] w := by
  refine G_aload_n dX3_readText_20 rfl ?_
  refine G_aload_n dX3_readText_21 rfl ?_
  refine G_iload_n dX3_readText_22 rfl ?_
  refine G_iload_n dX3_readText_23 rfl ?_
  exact G_VI (as := [vR p1, vI a2, vI a3]) (st := []) n0_X3_readNumbers dX3_readText_24 ml_RX3_55 mc_X3_readNumbers rfl ⟨by decide, ⟨Nat.le_of_ble_eq_true rfl, Nat.le_of_ble_eq_true rfl⟩, Nat.le_of_ble_eq_true rfl⟩ h1 ⟨_, _, rfl⟩ c2 (fun z u hq => kq z u hq)
theorem k_X3_readText_27 {Γ : Gm} {Ret : Option Value → Wd → Prop} {a2 a3 a4 s0 : Int} {p0 p1 : Nat} {o5 : Option Value} {w : Wd} (kt : s0 = (-4) → G Γ m_X3_readText Ret 0 0 49 [some (vR p0), some (vR p1), some (vI a2), some (vI a3), some (vI a4), some (vI s0)] [] w) (kf : ¬ (s0 = (-4)) → G Γ m_X3_readText Ret 0 0 36 [some (vR p0), some (vR p1), some (vI a2), some (vI a3), some (vI a4), some (vI s0)] [] w) (h1 : sm s0 := by omega) : G Γ m_X3_readText Ret 0 0 27 [some (vR p0), some (vR p1), some (vI a2), some (vI a3), some (vI a4), o5] [vI s0] w := by
  refine G_istore dX3_readText_27 (by decide) rfl ?_
  refine G_iload dX3_readText_29 rfl ?_
  refine G_bipush dX3_readText_31 (by decide +kernel) ?_
  exact G_icmp_eq dX3_readText_33 (by decide) h1 (by decide) kt kf
theorem k_X3_readText_49 {Γ : Gm} {Ret : Option Value → Wd → Prop} {a3 : Int} {o0 o1 o2 o4 o5 : Option Value} {w : Wd} (kr : Ret (some (vI a3)) w) : G Γ m_X3_readText Ret 0 0 49 [o0, o1, o2, some (vI a3), o4, o5] [] w := by
  refine G_iload_n dX3_readText_49 rfl ?_
  exact G_reti dX3_readText_50 trivial ⟨rfl, Nat.le_of_ble_eq_true rfl⟩ kr
theorem k_X3_readText_36 {Γ : Gm} {Ret : Option Value → Wd → Prop} {a2 a3 a4 a5 z1 : Int} {p0 p1 : Nat} {w : Wd} {Q : Int → Wd → Prop} (c1 : SpP Γ m_X3_letterAt [vR p1, vI a2, vI a3] w z1) (c3 : SpI Γ m_X3_takeItem [vR p0, vI z1] w Q) (kq : ∀ (z : Int) (u : Wd), Q z u → G Γ m_X3_readText Ret 0 0 46 [some (vR p0), some (vR p1), some (vI a2), some (vI a3), some (vI a4), some (vI a5)] [vI z] u) (h2 : sh w p0 = some (.inr 3) := by assumption) : G Γ m_X3_readText Ret 0 0 36 [some (vR p0), some (vR p1), some (vI a2), some (vI a3), some (vI a4), some (vI a5)] [] w := by
  refine G_aload_n dX3_readText_36 rfl ?_
  refine G_aload_n dX3_readText_37 rfl ?_
  refine G_iload_n dX3_readText_38 rfl ?_
  refine G_iload_n dX3_readText_39 rfl ?_
  refine G_SP (as := [vR p1, vI a2, vI a3]) (st := [vR p0]) n0_X3_letterAt dX3_readText_40 ml_RX3_59 mc_X3_letterAt rfl ⟨by decide, ⟨Nat.le_of_ble_eq_true rfl, Nat.le_of_ble_eq_true rfl⟩, Nat.le_of_ble_eq_true rfl⟩ c1 ?_
  exact G_VI (as := [vI z1]) (st := []) n0_X3_takeItem dX3_readText_43 ml_RX3_62 mc_X3_takeItem rfl ⟨by decide, ⟨Nat.le_of_ble_eq_true rfl, Nat.le_of_ble_eq_true rfl⟩, Nat.le_of_ble_eq_true rfl⟩ h2 ⟨_, _, rfl⟩ c3 (fun z u hq => kq z u hq)
theorem k_X3_readText_46 {Γ : Gm} {Ret : Option Value → Wd → Prop} {a2 a3 a4 a5 s0 : Int} {p0 p1 : Nat} {w : Wd} (kt : s0 ≠ 0 → G Γ m_X3_readText Ret 0 0 51 [some (vR p0), some (vR p1), some (vI a2), some (vI a3), some (vI a4), some (vI a5)] [] w) (kf : s0 = 0 → G Γ m_X3_readText Ret 0 0 49 [some (vR p0), some (vR p1), some (vI a2), some (vI a3), some (vI a4), some (vI a5)] [] w) (h1 : sm s0 := by omega) : G Γ m_X3_readText Ret 0 0 46 [some (vR p0), some (vR p1), some (vI a2), some (vI a3), some (vI a4), some (vI a5)] [vI s0] w := by
  exact G_if_ne dX3_readText_46 (by decide) h1 kt kf
theorem k_X3_readText_51 {Γ : Gm} {Ret : Option Value → Wd → Prop} {a2 a4 a5 : Int} {p0 p1 : Nat} {o3 : Option Value} {w : Wd} (km : G Γ m_X3_readText Ret 0 0 9 [some (vR p0), some (vR p1), some (vI a2), some (vI a5), some (vI (a4 + 1)), some (vI a5)] [] w) : G Γ m_X3_readText Ret 0 0 51 [some (vR p0), some (vR p1), some (vI a2), o3, some (vI a4), some (vI a5)] [] w := by
  refine G_iload dX3_readText_51 rfl ?_
  refine G_istore_n dX3_readText_53 (by decide) rfl ?_
  refine G_iinc dX3_readText_54 (by decide) rfl rfl ?_
  refine G_goto dX3_readText_57 (tgt := 9) (by decide) ?_
  exact km
theorem k_X3_readNumbers_0 {Γ : Gm} {Ret : Option Value → Wd → Prop} {a2 a3 z1 z2 : Int} {p0 p1 : Nat} {w : Wd} (c1 : SpP Γ m_X3_letterAt [vR p1, vI a2, vI a3] w z1) (c2 : SpP Γ m_X3_numbersBehind [vI z1] w z2) (kt : z2 ≠ 0 → G Γ m_X3_readNumbers Ret 0 0 19 [some (vR p0), some (vR p1), some (vI a2), some (vI a3), some (vI z2), none, none, none] [] w) (kf : z2 = 0 → G Γ m_X3_readNumbers Ret 0 0 16 [some (vR p0), some (vR p1), some (vI a2), some (vI a3), some (vI z2), none, none, none] [] w) (h3 : sm z2 := by omega) : G Γ m_X3_readNumbers Ret 0 0 0 [some (vR p0), some (vR p1), some (vI a2), some (vI a3), none, none, none, none] [] w := by
  refine G_aload_n dX3_readNumbers_0 rfl ?_
  refine G_iload_n dX3_readNumbers_1 rfl ?_
  refine G_iload_n dX3_readNumbers_2 rfl ?_
  refine G_SP (as := [vR p1, vI a2, vI a3]) (st := []) n0_X3_letterAt dX3_readNumbers_3 ml_RX3_59 mc_X3_letterAt rfl ⟨by decide, ⟨Nat.le_of_ble_eq_true rfl, Nat.le_of_ble_eq_true rfl⟩, Nat.le_of_ble_eq_true rfl⟩ c1 ?_
  refine G_SP (as := [vI z1]) (st := []) n0_X3_numbersBehind dX3_readNumbers_6 ml_RX3_66 mc_X3_numbersBehind rfl ⟨by decide, ⟨Nat.le_of_ble_eq_true rfl, Nat.le_of_ble_eq_true rfl⟩, Nat.le_of_ble_eq_true rfl⟩ c2 ?_
  refine G_istore dX3_readNumbers_9 (by decide) rfl ?_
  refine G_iload dX3_readNumbers_11 rfl ?_
  exact G_if_ne dX3_readNumbers_13 (by decide) h3 kt kf
theorem k_X3_readNumbers_19 {Γ : Gm} {Ret : Option Value → Wd → Prop} {a2 a3 a4 : Int} {p0 p1 : Nat} {o5 o6 o7 : Option Value} {w : Wd} (km : G Γ m_X3_readNumbers Ret 0 0 27 [some (vR p0), some (vR p1), some (vI a2), some (vI a3), some (vI a4), some (vI (a3 + 1)), some (vI 0), o7] [] w) : G Γ m_X3_readNumbers Ret 0 0 19 [some (vR p0), some (vR p1), some (vI a2), some (vI a3), some (vI a4), o5, o6, o7] [] w := by
  refine G_iload_n dX3_readNumbers_19 rfl ?_
  refine G_const dX3_readNumbers_20 ?_
  refine G_iadd dX3_readNumbers_21 ?_
  refine G_istore dX3_readNumbers_22 (by decide) rfl ?_
  refine G_const dX3_readNumbers_24 ?_
  refine G_istore dX3_readNumbers_25 (by decide) rfl ?_
  exact km
theorem k_X3_readNumbers_16 {Γ : Gm} {Ret : Option Value → Wd → Prop} {o0 o1 o2 o3 o4 o5 o6 o7 : Option Value} {w : Wd} (kr : Ret (some (vI (-4))) w) : G Γ m_X3_readNumbers Ret 0 0 16 [o0, o1, o2, o3, o4, o5, o6, o7] [] w := by
  refine G_bipush dX3_readNumbers_16 (by decide +kernel) ?_
  exact G_reti dX3_readNumbers_18 trivial ⟨rfl, Nat.le_of_ble_eq_true rfl⟩ kr
theorem k_X3_readNumbers_27 {Γ : Gm} {Ret : Option Value → Wd → Prop} {a2 a4 a5 a6 : Int} {p0 p1 : Nat} {o3 o7 : Option Value} {w : Wd} (kt : a4 ≤ a6 → G Γ m_X3_readNumbers Ret 0 0 114 [some (vR p0), some (vR p1), some (vI a2), o3, some (vI a4), some (vI a5), some (vI a6), o7] [] w) (kf : ¬ (a4 ≤ a6) → G Γ m_X3_readNumbers Ret 0 0 34 [some (vR p0), some (vR p1), some (vI a2), o3, some (vI a4), some (vI a5), some (vI a6), o7] [] w) (h1 : sm a6 := by omega) (h2 : sm a4 := by omega) : G Γ m_X3_readNumbers Ret 0 0 27 [some (vR p0), some (vR p1), some (vI a2), o3, some (vI a4), some (vI a5), some (vI a6), o7] [] w := by
  refine G_iload dX3_readNumbers_27 rfl ?_
  refine G_iload dX3_readNumbers_29 rfl ?_
  exact G_icmp_ge dX3_readNumbers_31 (by decide) h1 h2 kt kf
theorem k_X3_readNumbers_114 {Γ : Gm} {Ret : Option Value → Wd → Prop} {a5 : Int} {o0 o1 o2 o3 o4 o6 o7 : Option Value} {w : Wd} (kr : Ret (some (vI a5)) w) : G Γ m_X3_readNumbers Ret 0 0 114 [o0, o1, o2, o3, o4, some (vI a5), o6, o7] [] w := by
  refine G_iload dX3_readNumbers_114 rfl ?_
  exact G_reti dX3_readNumbers_116 trivial ⟨rfl, Nat.le_of_ble_eq_true rfl⟩ kr
theorem k_X3_readNumbers_34 {Γ : Gm} {Ret : Option Value → Wd → Prop} {a2 a4 a5 a6 z1 : Int} {p0 p1 : Nat} {o3 o7 : Option Value} {w : Wd} (c1 : SpP Γ m_X3_figuresAt [vR p1, vI a2, vI a5] w z1) (kt : z1 ≠ 0 → G Γ m_X3_readNumbers Ret 0 0 51 [some (vR p0), some (vR p1), some (vI a2), o3, some (vI a4), some (vI a5), some (vI a6), some (vI z1)] [] w) (kf : z1 = 0 → G Γ m_X3_readNumbers Ret 0 0 48 [some (vR p0), some (vR p1), some (vI a2), o3, some (vI a4), some (vI a5), some (vI a6), some (vI z1)] [] w) (h2 : sm z1 := by omega) : G Γ m_X3_readNumbers Ret 0 0 34 [some (vR p0), some (vR p1), some (vI a2), o3, some (vI a4), some (vI a5), some (vI a6), o7] [] w := by
  refine G_aload_n dX3_readNumbers_34 rfl ?_
  refine G_iload_n dX3_readNumbers_35 rfl ?_
  refine G_iload dX3_readNumbers_36 rfl ?_
  refine G_SP (as := [vR p1, vI a2, vI a5]) (st := []) n0_X3_figuresAt dX3_readNumbers_38 ml_RX3_70 mc_X3_figuresAt rfl ⟨by decide, ⟨Nat.le_of_ble_eq_true rfl, Nat.le_of_ble_eq_true rfl⟩, Nat.le_of_ble_eq_true rfl⟩ c1 ?_
  refine G_istore dX3_readNumbers_41 (by decide) rfl ?_
  refine G_iload dX3_readNumbers_43 rfl ?_
  exact G_if_ne dX3_readNumbers_45 (by decide) h2 kt kf
theorem k_X3_readNumbers_51 {Γ : Gm} {Ret : Option Value → Wd → Prop} {a2 a4 a5 a6 a7 z2 : Int} {p0 p1 q1 : Nat} {o3 : Option Value} {w : Wd} {Q : Wd → Prop} (c3 : SpP Γ m_X3_numberAt [vR p1, vI a2, vI a5, vI a7] w z2) (c4 : SpV Γ m_X6_put [vR q1, vI a6, vI z2] w Q) (kq : ∀ u : Wd, Q u → G Γ m_X3_readNumbers Ret 0 0 69 [some (vR p0), some (vR p1), some (vI a2), o3, some (vI a4), some (vI a5), some (vI a6), some (vI a7)] [] u) (h1 : sh w p0 = some (.inr 3) := by assumption) (h2 : wR w p0 4 = vR q1 := by assumption) : G Γ m_X3_readNumbers Ret 0 0 51 [some (vR p0), some (vR p1), some (vI a2), o3, some (vI a4), some (vI a5), some (vI a6), some (vI a7)] [] w := by
  refine G_aload_n dX3_readNumbers_51 rfl ?_
  refine G_getR dX3_readNumbers_52 fl_RX3_24 h1 rfl h2 ?_
  refine G_iload dX3_readNumbers_55 rfl ?_
  refine G_aload_n dX3_readNumbers_57 rfl ?_
  refine G_iload_n dX3_readNumbers_58 rfl ?_
  refine G_iload dX3_readNumbers_59 rfl ?_
  refine G_iload dX3_readNumbers_61 rfl ?_
  refine G_SP (as := [vR p1, vI a2, vI a5, vI a7]) (st := [vI a6, vR q1]) n0_X3_numberAt dX3_readNumbers_63 ml_RX3_73 mc_X3_numberAt rfl ⟨by decide, ⟨Nat.le_of_ble_eq_true rfl, Nat.le_of_ble_eq_true rfl⟩, Nat.le_of_ble_eq_true rfl⟩ c3 ?_
  exact G_SV (as := [vR q1, vI a6, vI z2]) (st := []) n0_X6_put dX3_readNumbers_66 ml_RX3_77 mc_X6_put rfl ⟨by decide, ⟨Nat.le_of_ble_eq_true rfl, Nat.le_of_ble_eq_true rfl⟩, Nat.le_of_ble_eq_true rfl⟩ c4 (fun u hq => kq u hq)
theorem k_X3_readNumbers_48 {Γ : Gm} {Ret : Option Value → Wd → Prop} {o0 o1 o2 o3 o4 o5 o6 o7 : Option Value} {w : Wd} (kr : Ret (some (vI (-4))) w) : G Γ m_X3_readNumbers Ret 0 0 48 [o0, o1, o2, o3, o4, o5, o6, o7] [] w := by
  refine G_bipush dX3_readNumbers_48 (by decide +kernel) ?_
  exact G_reti dX3_readNumbers_50 trivial ⟨rfl, Nat.le_of_ble_eq_true rfl⟩ kr
theorem k_X3_readNumbers_69 {Γ : Gm} {Ret : Option Value → Wd → Prop} {a2 a4 a5 a6 a7 z1 : Int} {p0 p1 : Nat} {o3 : Option Value} {w : Wd} (c1 : SpP Γ m_X3_letterAt [vR p1, vI a2, vI (a5 + a7)] w z1) (kt : (a6 + 1) ≠ a4 → G Γ m_X3_readNumbers Ret 0 0 97 [some (vR p0), some (vR p1), some (vI a2), o3, some (vI a4), some (vI (a5 + a7)), some (vI a6), some (vI a7)] [vI z1] w) (kf : (a6 + 1) = a4 → G Γ m_X3_readNumbers Ret 0 0 92 [some (vR p0), some (vR p1), some (vI a2), o3, some (vI a4), some (vI (a5 + a7)), some (vI a6), some (vI a7)] [vI z1] w) (h2 : sm (a6 + 1) := by omega) (h3 : sm a4 := by omega) : G Γ m_X3_readNumbers Ret 0 0 69 [some (vR p0), some (vR p1), some (vI a2), o3, some (vI a4), some (vI a5), some (vI a6), some (vI a7)] [] w := by
  refine G_iload dX3_readNumbers_69 rfl ?_
  refine G_iload dX3_readNumbers_71 rfl ?_
  refine G_iadd dX3_readNumbers_73 ?_
  refine G_istore dX3_readNumbers_74 (by decide) rfl ?_
  refine G_aload_n dX3_readNumbers_76 rfl ?_
  refine G_iload_n dX3_readNumbers_77 rfl ?_
  refine G_iload dX3_readNumbers_78 rfl ?_
  refine G_SP (as := [vR p1, vI a2, vI (a5 + a7)]) (st := []) n0_X3_letterAt dX3_readNumbers_80 ml_RX3_59 mc_X3_letterAt rfl ⟨by decide, ⟨Nat.le_of_ble_eq_true rfl, Nat.le_of_ble_eq_true rfl⟩, Nat.le_of_ble_eq_true rfl⟩ c1 ?_
  refine G_iload dX3_readNumbers_83 rfl ?_
  refine G_const dX3_readNumbers_85 ?_
  refine G_iadd dX3_readNumbers_86 ?_
  refine G_iload dX3_readNumbers_87 rfl ?_
  exact G_icmp_ne dX3_readNumbers_89 (by decide) h2 h3 kt kf
theorem k_X3_readNumbers_97 {Γ : Gm} {Ret : Option Value → Wd → Prop} {a2 a4 a5 a6 s0 : Int} {p0 p1 : Nat} {o3 o7 : Option Value} {w : Wd} (kt : s0 = 44 → G Γ m_X3_readNumbers Ret 0 0 105 [some (vR p0), some (vR p1), some (vI a2), o3, some (vI a4), some (vI a5), some (vI a6), o7] [] w) (kf : ¬ (s0 = 44) → G Γ m_X3_readNumbers Ret 0 0 102 [some (vR p0), some (vR p1), some (vI a2), o3, some (vI a4), some (vI a5), some (vI a6), o7] [] w) (h1 : sm s0 := by omega) : G Γ m_X3_readNumbers Ret 0 0 97 [some (vR p0), some (vR p1), some (vI a2), o3, some (vI a4), some (vI a5), some (vI a6), o7] [vI s0] w := by
  refine G_bipush dX3_readNumbers_97 (by decide +kernel) ?_
  exact G_icmp_eq dX3_readNumbers_99 (by decide) h1 (by decide) kt kf
theorem k_X3_readNumbers_92 {Γ : Gm} {Ret : Option Value → Wd → Prop} {a2 a4 a5 a6 s0 : Int} {p0 p1 : Nat} {o3 o7 : Option Value} {w : Wd} (kt : s0 = 59 → G Γ m_X3_readNumbers Ret 0 0 105 [some (vR p0), some (vR p1), some (vI a2), o3, some (vI a4), some (vI a5), some (vI a6), o7] [] w) (kf : ¬ (s0 = 59) → G Γ m_X3_readNumbers Ret 0 0 102 [some (vR p0), some (vR p1), some (vI a2), o3, some (vI a4), some (vI a5), some (vI a6), o7] [] w) (h1 : sm s0 := by omega) : G Γ m_X3_readNumbers Ret 0 0 92 [some (vR p0), some (vR p1), some (vI a2), o3, some (vI a4), some (vI a5), some (vI a6), o7] [vI s0] w := by
  refine G_bipush dX3_readNumbers_92 (by decide +kernel) ?_
  refine G_goto dX3_readNumbers_94 (tgt := 99) (by decide) ?_
  exact G_icmp_eq dX3_readNumbers_99 (by decide) h1 (by decide) kt kf
theorem k_X3_readNumbers_105 {Γ : Gm} {Ret : Option Value → Wd → Prop} {a2 a4 a5 a6 : Int} {p0 p1 : Nat} {o3 o7 : Option Value} {w : Wd} (km : G Γ m_X3_readNumbers Ret 0 0 27 [some (vR p0), some (vR p1), some (vI a2), o3, some (vI a4), some (vI (a5 + 1)), some (vI (a6 + 1)), o7] [] w) : G Γ m_X3_readNumbers Ret 0 0 105 [some (vR p0), some (vR p1), some (vI a2), o3, some (vI a4), some (vI a5), some (vI a6), o7] [] w := by
  refine G_iinc dX3_readNumbers_105 (by decide) rfl rfl ?_
  refine G_iinc dX3_readNumbers_108 (by decide) rfl rfl ?_
  refine G_goto dX3_readNumbers_111 (tgt := 27) (by decide) ?_
  exact km
theorem k_X3_readNumbers_102 {Γ : Gm} {Ret : Option Value → Wd → Prop} {o0 o1 o2 o3 o4 o5 o6 o7 : Option Value} {w : Wd} (kr : Ret (some (vI (-4))) w) : G Γ m_X3_readNumbers Ret 0 0 102 [o0, o1, o2, o3, o4, o5, o6, o7] [] w := by
  refine G_bipush dX3_readNumbers_102 (by decide +kernel) ?_
  exact G_reti dX3_readNumbers_104 trivial ⟨rfl, Nat.le_of_ble_eq_true rfl⟩ kr
theorem k_X3_numbersBehind_0 {Γ : Gm} {Ret : Option Value → Wd → Prop} {a0 : Int} {w : Wd} (k80 : a0 = 115 → G Γ m_X3_numbersBehind Ret 0 0 80 [some (vI a0)] [] w) (k82 : (a0 = 107 ∨ a0 = 114) → G Γ m_X3_numbersBehind Ret 0 0 82 [some (vI a0)] [] w) (k84 : (a0 = 100 ∨ a0 = 104 ∨ a0 = 111) → G Γ m_X3_numbersBehind Ret 0 0 84 [some (vI a0)] [] w) (kd : (a0 ≠ 100 ∧ a0 ≠ 104 ∧ a0 ≠ 107 ∧ a0 ≠ 111 ∧ a0 ≠ 114 ∧ a0 ≠ 115) → G Γ m_X3_numbersBehind Ret 0 0 86 [some (vI a0)] [] w) (h1 : sm a0 := by omega) : G Γ m_X3_numbersBehind Ret 0 0 0 [some (vI a0)] [] w := by
  refine G_iload_n dX3_numbersBehind_0 rfl ?_
  by_cases hq : a0 < 100 ∨ 115 < a0
  · exact G_tableOut dX3_numbersBehind_1 h1 hq (by decide) (kd (by omega))
  by_cases hv0 : a0 = 100
  · exact G_tableIn (off := 83) (tgt := 84) dX3_numbersBehind_1 h1 (by omega) (by omega) (by rw [hv0]; rfl) (by decide) (k84 (by omega))
  by_cases hv1 : a0 = 101
  · exact G_tableIn (off := 85) (tgt := 86) dX3_numbersBehind_1 h1 (by omega) (by omega) (by rw [hv1]; rfl) (by decide) (kd (by omega))
  by_cases hv2 : a0 = 102
  · exact G_tableIn (off := 85) (tgt := 86) dX3_numbersBehind_1 h1 (by omega) (by omega) (by rw [hv2]; rfl) (by decide) (kd (by omega))
  by_cases hv3 : a0 = 103
  · exact G_tableIn (off := 85) (tgt := 86) dX3_numbersBehind_1 h1 (by omega) (by omega) (by rw [hv3]; rfl) (by decide) (kd (by omega))
  by_cases hv4 : a0 = 104
  · exact G_tableIn (off := 83) (tgt := 84) dX3_numbersBehind_1 h1 (by omega) (by omega) (by rw [hv4]; rfl) (by decide) (k84 (by omega))
  by_cases hv5 : a0 = 105
  · exact G_tableIn (off := 85) (tgt := 86) dX3_numbersBehind_1 h1 (by omega) (by omega) (by rw [hv5]; rfl) (by decide) (kd (by omega))
  by_cases hv6 : a0 = 106
  · exact G_tableIn (off := 85) (tgt := 86) dX3_numbersBehind_1 h1 (by omega) (by omega) (by rw [hv6]; rfl) (by decide) (kd (by omega))
  by_cases hv7 : a0 = 107
  · exact G_tableIn (off := 81) (tgt := 82) dX3_numbersBehind_1 h1 (by omega) (by omega) (by rw [hv7]; rfl) (by decide) (k82 (by omega))
  by_cases hv8 : a0 = 108
  · exact G_tableIn (off := 85) (tgt := 86) dX3_numbersBehind_1 h1 (by omega) (by omega) (by rw [hv8]; rfl) (by decide) (kd (by omega))
  by_cases hv9 : a0 = 109
  · exact G_tableIn (off := 85) (tgt := 86) dX3_numbersBehind_1 h1 (by omega) (by omega) (by rw [hv9]; rfl) (by decide) (kd (by omega))
  by_cases hv10 : a0 = 110
  · exact G_tableIn (off := 85) (tgt := 86) dX3_numbersBehind_1 h1 (by omega) (by omega) (by rw [hv10]; rfl) (by decide) (kd (by omega))
  by_cases hv11 : a0 = 111
  · exact G_tableIn (off := 83) (tgt := 84) dX3_numbersBehind_1 h1 (by omega) (by omega) (by rw [hv11]; rfl) (by decide) (k84 (by omega))
  by_cases hv12 : a0 = 112
  · exact G_tableIn (off := 85) (tgt := 86) dX3_numbersBehind_1 h1 (by omega) (by omega) (by rw [hv12]; rfl) (by decide) (kd (by omega))
  by_cases hv13 : a0 = 113
  · exact G_tableIn (off := 85) (tgt := 86) dX3_numbersBehind_1 h1 (by omega) (by omega) (by rw [hv13]; rfl) (by decide) (kd (by omega))
  by_cases hv14 : a0 = 114
  · exact G_tableIn (off := 81) (tgt := 82) dX3_numbersBehind_1 h1 (by omega) (by omega) (by rw [hv14]; rfl) (by decide) (k82 (by omega))
  by_cases hv15 : a0 = 115
  · exact G_tableIn (off := 79) (tgt := 80) dX3_numbersBehind_1 h1 (by omega) (by omega) (by rw [hv15]; rfl) (by decide) (k80 (by omega))
  exact absurd hq (by omega)
theorem k_X3_numbersBehind_80 {Γ : Gm} {Ret : Option Value → Wd → Prop} {o0 : Option Value} {w : Wd} (kr : Ret (some (vI 3)) w) : G Γ m_X3_numbersBehind Ret 0 0 80 [o0] [] w := by
  refine G_const dX3_numbersBehind_80 ?_
  exact G_reti dX3_numbersBehind_81 trivial ⟨rfl, Nat.le_of_ble_eq_true rfl⟩ kr
theorem k_X3_numbersBehind_82 {Γ : Gm} {Ret : Option Value → Wd → Prop} {o0 : Option Value} {w : Wd} (kr : Ret (some (vI 2)) w) : G Γ m_X3_numbersBehind Ret 0 0 82 [o0] [] w := by
  refine G_const dX3_numbersBehind_82 ?_
  exact G_reti dX3_numbersBehind_83 trivial ⟨rfl, Nat.le_of_ble_eq_true rfl⟩ kr
theorem k_X3_numbersBehind_84 {Γ : Gm} {Ret : Option Value → Wd → Prop} {o0 : Option Value} {w : Wd} (kr : Ret (some (vI 1)) w) : G Γ m_X3_numbersBehind Ret 0 0 84 [o0] [] w := by
  refine G_const dX3_numbersBehind_84 ?_
  exact G_reti dX3_numbersBehind_85 trivial ⟨rfl, Nat.le_of_ble_eq_true rfl⟩ kr
theorem k_X3_numbersBehind_86 {Γ : Gm} {Ret : Option Value → Wd → Prop} {o0 : Option Value} {w : Wd} (kr : Ret (some (vI 0)) w) : G Γ m_X3_numbersBehind Ret 0 0 86 [o0] [] w := by
  refine G_const dX3_numbersBehind_86 ?_
  exact G_reti dX3_numbersBehind_87 trivial ⟨rfl, Nat.le_of_ble_eq_true rfl⟩ kr
theorem k_X3_figuresAt_0 {Γ : Gm} {Ret : Option Value → Wd → Prop} {a1 a2 z1 z2 : Int} {p0 : Nat} {w : Wd} (c1 : SpP Γ m_X3_letterAt [vR p0, vI a1, vI a2] w z1) (c2 : SpP Γ m_X3_isFigure [vI z1] w z2) (kt : z2 ≠ 0 → G Γ m_X3_figuresAt Ret 0 0 14 [some (vR p0), some (vI a1), some (vI a2)] [] w) (kf : z2 = 0 → G Γ m_X3_figuresAt Ret 0 0 12 [some (vR p0), some (vI a1), some (vI a2)] [] w) (h3 : sm z2 := by omega) : G Γ m_X3_figuresAt Ret 0 0 0 [some (vR p0), some (vI a1), some (vI a2)] [] w := by
  refine G_aload_n dX3_figuresAt_0 rfl ?_
  refine G_iload_n dX3_figuresAt_1 rfl ?_
  refine G_iload_n dX3_figuresAt_2 rfl ?_
  refine G_SP (as := [vR p0, vI a1, vI a2]) (st := []) n0_X3_letterAt dX3_figuresAt_3 ml_RX3_59 mc_X3_letterAt rfl ⟨by decide, ⟨Nat.le_of_ble_eq_true rfl, Nat.le_of_ble_eq_true rfl⟩, Nat.le_of_ble_eq_true rfl⟩ c1 ?_
  refine G_SP (as := [vI z1]) (st := []) n0_X3_isFigure dX3_figuresAt_6 ml_RX3_81 mc_X3_isFigure rfl ⟨by decide, ⟨Nat.le_of_ble_eq_true rfl, Nat.le_of_ble_eq_true rfl⟩, Nat.le_of_ble_eq_true rfl⟩ c2 ?_
  exact G_if_ne dX3_figuresAt_9 (by decide) h3 kt kf
theorem k_X3_figuresAt_14 {Γ : Gm} {Ret : Option Value → Wd → Prop} {a1 a2 z1 z2 : Int} {p0 : Nat} {w : Wd} (c1 : SpP Γ m_X3_letterAt [vR p0, vI a1, vI (a2 + 1)] w z1) (c2 : SpP Γ m_X3_isFigure [vI z1] w z2) (kt : z2 = 0 → G Γ m_X3_figuresAt Ret 0 0 32 [some (vR p0), some (vI a1), some (vI a2)] [] w) (kf : ¬ (z2 = 0) → G Γ m_X3_figuresAt Ret 0 0 28 [some (vR p0), some (vI a1), some (vI a2)] [] w) (h3 : sm z2 := by omega) : G Γ m_X3_figuresAt Ret 0 0 14 [some (vR p0), some (vI a1), some (vI a2)] [] w := by
  refine G_aload_n dX3_figuresAt_14 rfl ?_
  refine G_iload_n dX3_figuresAt_15 rfl ?_
  refine G_iload_n dX3_figuresAt_16 rfl ?_
  refine G_const dX3_figuresAt_17 ?_
  refine G_iadd dX3_figuresAt_18 ?_
  refine G_SP (as := [vR p0, vI a1, vI (a2 + 1)]) (st := []) n0_X3_letterAt dX3_figuresAt_19 ml_RX3_59 mc_X3_letterAt rfl ⟨by decide, ⟨Nat.le_of_ble_eq_true rfl, Nat.le_of_ble_eq_true rfl⟩, Nat.le_of_ble_eq_true rfl⟩ c1 ?_
  refine G_SP (as := [vI z1]) (st := []) n0_X3_isFigure dX3_figuresAt_22 ml_RX3_81 mc_X3_isFigure rfl ⟨by decide, ⟨Nat.le_of_ble_eq_true rfl, Nat.le_of_ble_eq_true rfl⟩, Nat.le_of_ble_eq_true rfl⟩ c2 ?_
  exact G_if_eq dX3_figuresAt_25 (by decide) h3 kt kf
theorem k_X3_figuresAt_12 {Γ : Gm} {Ret : Option Value → Wd → Prop} {o0 o1 o2 : Option Value} {w : Wd} (kr : Ret (some (vI 0)) w) : G Γ m_X3_figuresAt Ret 0 0 12 [o0, o1, o2] [] w := by
  refine G_const dX3_figuresAt_12 ?_
  exact G_reti dX3_figuresAt_13 trivial ⟨rfl, Nat.le_of_ble_eq_true rfl⟩ kr
theorem k_X3_figuresAt_32 {Γ : Gm} {Ret : Option Value → Wd → Prop} {o0 o1 o2 : Option Value} {w : Wd} (kr : Ret (some (vI 1)) w) : G Γ m_X3_figuresAt Ret 0 0 32 [o0, o1, o2] [] w := by
  refine G_const dX3_figuresAt_32 ?_
  exact G_reti dX3_figuresAt_33 trivial ⟨rfl, Nat.le_of_ble_eq_true rfl⟩ kr
theorem k_X3_figuresAt_28 {Γ : Gm} {Ret : Option Value → Wd → Prop} {o0 o1 o2 : Option Value} {w : Wd} (kr : Ret (some (vI 2)) w) : G Γ m_X3_figuresAt Ret 0 0 28 [o0, o1, o2] [] w := by
  refine G_const dX3_figuresAt_28 ?_
  refine G_goto dX3_figuresAt_29 (tgt := 33) (by decide) ?_
  exact G_reti dX3_figuresAt_33 trivial ⟨rfl, Nat.le_of_ble_eq_true rfl⟩ kr
theorem k_X3_numberAt_0 {Γ : Gm} {Ret : Option Value → Wd → Prop} {a1 a2 a3 : Int} {p0 : Nat} {w : Wd} (km : G Γ m_X3_numberAt Ret 0 0 6 [some (vR p0), some (vI a1), some (vI a2), some (vI a3), some (vI 0), some (vI 0)] [] w) : G Γ m_X3_numberAt Ret 0 0 0 [some (vR p0), some (vI a1), some (vI a2), some (vI a3), none, none] [] w := by
  refine G_const dX3_numberAt_0 ?_
  refine G_istore dX3_numberAt_1 (by decide) rfl ?_
  refine G_const dX3_numberAt_3 ?_
  refine G_istore dX3_numberAt_4 (by decide) rfl ?_
  exact km
theorem k_X3_numberAt_6 {Γ : Gm} {Ret : Option Value → Wd → Prop} {a1 a2 a3 a4 a5 : Int} {p0 : Nat} {w : Wd} (kt : a3 ≤ a5 → G Γ m_X3_numberAt Ret 0 0 38 [some (vR p0), some (vI a1), some (vI a2), some (vI a3), some (vI a4), some (vI a5)] [] w) (kf : ¬ (a3 ≤ a5) → G Γ m_X3_numberAt Ret 0 0 12 [some (vR p0), some (vI a1), some (vI a2), some (vI a3), some (vI a4), some (vI a5)] [] w) (h1 : sm a5 := by omega) (h2 : sm a3 := by omega) : G Γ m_X3_numberAt Ret 0 0 6 [some (vR p0), some (vI a1), some (vI a2), some (vI a3), some (vI a4), some (vI a5)] [] w := by
  refine G_iload dX3_numberAt_6 rfl ?_
  refine G_iload_n dX3_numberAt_8 rfl ?_
  exact G_icmp_ge dX3_numberAt_9 (by decide) h1 h2 kt kf
theorem k_X3_numberAt_38 {Γ : Gm} {Ret : Option Value → Wd → Prop} {a4 : Int} {o0 o1 o2 o3 o5 : Option Value} {w : Wd} (kr : Ret (some (vI a4)) w) : G Γ m_X3_numberAt Ret 0 0 38 [o0, o1, o2, o3, some (vI a4), o5] [] w := by
  refine G_iload dX3_numberAt_38 rfl ?_
  exact G_reti dX3_numberAt_40 trivial ⟨rfl, Nat.le_of_ble_eq_true rfl⟩ kr
theorem k_X3_numberAt_12 {Γ : Gm} {Ret : Option Value → Wd → Prop} {a1 a2 a3 a4 a5 z1 : Int} {p0 : Nat} {w : Wd} (c1 : SpP Γ m_X3_letterAt [vR p0, vI a1, vI (a2 + a5)] w z1) (km : G Γ m_X3_numberAt Ret 0 0 6 [some (vR p0), some (vI a1), some (vI a2), some (vI a3), some (vI (((a4 * 10) + z1) - 48)), some (vI (a5 + 1))] [] w) : G Γ m_X3_numberAt Ret 0 0 12 [some (vR p0), some (vI a1), some (vI a2), some (vI a3), some (vI a4), some (vI a5)] [] w := by
  refine G_iload dX3_numberAt_12 rfl ?_
  refine G_bipush dX3_numberAt_14 (by decide +kernel) ?_
  refine G_imul dX3_numberAt_16 ?_
  refine G_aload_n dX3_numberAt_17 rfl ?_
  refine G_iload_n dX3_numberAt_18 rfl ?_
  refine G_iload_n dX3_numberAt_19 rfl ?_
  refine G_iload dX3_numberAt_20 rfl ?_
  refine G_iadd dX3_numberAt_22 ?_
  refine G_SP (as := [vR p0, vI a1, vI (a2 + a5)]) (st := [vI (a4 * 10)]) n0_X3_letterAt dX3_numberAt_23 ml_RX3_59 mc_X3_letterAt rfl ⟨by decide, ⟨Nat.le_of_ble_eq_true rfl, Nat.le_of_ble_eq_true rfl⟩, Nat.le_of_ble_eq_true rfl⟩ c1 ?_
  refine G_iadd dX3_numberAt_26 ?_
  refine G_bipush dX3_numberAt_27 (by decide +kernel) ?_
  refine G_isub dX3_numberAt_29 ?_
  refine G_istore dX3_numberAt_30 (by decide) rfl ?_
  refine G_iinc dX3_numberAt_32 (by decide) rfl rfl ?_
  refine G_goto dX3_numberAt_35 (tgt := 6) (by decide) ?_
  exact km
theorem k_X3_isFigure_0 {Γ : Gm} {Ret : Option Value → Wd → Prop} {a0 z1 : Int} {w : Wd} (c1 : SpP Γ m_X6_within [vI a0, vI 48, vI 57] w z1) (kr : Ret (some (vI z1)) w) (h2 : z1 = 0 ∨ z1 = 1 := by omega) : G Γ m_X3_isFigure Ret 0 0 0 [some (vI a0)] [] w := by
  refine G_iload_n dX3_isFigure_0 rfl ?_
  refine G_bipush dX3_isFigure_1 (by decide +kernel) ?_
  refine G_bipush dX3_isFigure_3 (by decide +kernel) ?_
  refine G_SP (as := [vI a0, vI 48, vI 57]) (st := []) n0_X6_within dX3_isFigure_5 ml_RX3_84 mc_X6_within rfl ⟨by decide, ⟨Nat.le_of_ble_eq_true rfl, Nat.le_of_ble_eq_true rfl⟩, Nat.le_of_ble_eq_true rfl⟩ c1 ?_
  exact G_reti dX3_isFigure_8 (by rcases h2 with q | q <;> rw [q]; exact Or.inl rfl; exact Or.inr rfl) ⟨rfl, Nat.le_of_ble_eq_true rfl⟩ kr
theorem k_X3_letterAt_0 {Γ : Gm} {Ret : Option Value → Wd → Prop} {a1 a2 : Int} {p0 : Nat} {w : Wd} (kt : a2 < 0 → G Γ m_X3_letterAt Ret 0 0 21 [some (vR p0), some (vI a1), some (vI a2)] [] w) (kf : ¬ (a2 < 0) → G Γ m_X3_letterAt Ret 0 0 4 [some (vR p0), some (vI a1), some (vI a2)] [] w) (h1 : sm a2 := by omega) : G Γ m_X3_letterAt Ret 0 0 0 [some (vR p0), some (vI a1), some (vI a2)] [] w := by
  refine G_iload_n dX3_letterAt_0 rfl ?_
  exact G_if_lt dX3_letterAt_1 (by decide) h1 kt kf
theorem k_X3_letterAt_21 {Γ : Gm} {Ret : Option Value → Wd → Prop} {o0 o1 o2 : Option Value} {w : Wd} (kr : Ret (some (vI 0)) w) : G Γ m_X3_letterAt Ret 0 0 21 [o0, o1, o2] [] w := by
  refine G_const dX3_letterAt_21 ?_
  exact G_reti dX3_letterAt_22 trivial ⟨rfl, Nat.le_of_ble_eq_true rfl⟩ kr
theorem k_X3_letterAt_4 {Γ : Gm} {Ret : Option Value → Wd → Prop} {a1 a2 : Int} {p0 : Nat} {w : Wd} (kt : a1 ≤ a2 → G Γ m_X3_letterAt Ret 0 0 21 [some (vR p0), some (vI a1), some (vI a2)] [] w) (kf : ¬ (a1 ≤ a2) → G Γ m_X3_letterAt Ret 0 0 9 [some (vR p0), some (vI a1), some (vI a2)] [] w) (h1 : sm a2 := by omega) (h2 : sm a1 := by omega) : G Γ m_X3_letterAt Ret 0 0 4 [some (vR p0), some (vI a1), some (vI a2)] [] w := by
  refine G_iload_n dX3_letterAt_4 rfl ?_
  refine G_iload_n dX3_letterAt_5 rfl ?_
  exact G_icmp_ge dX3_letterAt_6 (by decide) h1 h2 kt kf
theorem k_X3_letterAt_9 {Γ : Gm} {Ret : Option Value → Wd → Prop} {a2 : Int} {p0 n1 : Nat} {o1 : Option Value} {w : Wd} (kt : (n1 : Int) ≤ a2 → G Γ m_X3_letterAt Ret 0 0 21 [some (vR p0), o1, some (vI a2)] [] w) (kf : ¬ ((n1 : Int) ≤ a2) → G Γ m_X3_letterAt Ret 0 0 15 [some (vR p0), o1, some (vI a2)] [] w) (h1 : sh w p0 = some (.inl (1, n1)) := by assumption) (h2 : sm a2 := by omega) (h3 : sm (n1 : Int) := by omega) : G Γ m_X3_letterAt Ret 0 0 9 [some (vR p0), o1, some (vI a2)] [] w := by
  refine G_iload_n dX3_letterAt_9 rfl ?_
  refine G_aload_n dX3_letterAt_10 rfl ?_
  refine G_alen dX3_letterAt_11 h1 (by decide) ?_
  exact G_icmp_ge dX3_letterAt_12 (by decide) h2 h3 kt kf
theorem k_X3_letterAt_15 {Γ : Gm} {Ret : Option Value → Wd → Prop} {a2 : Int} {p0 n1 : Nat} {o1 : Option Value} {w : Wd} (kr : Ret (some (vI (wI w p0 a2))) w) (h1 : sh w p0 = some (.inl (1, n1)) := by assumption) (h2 : (0 : Int) ≤ a2 ∧ a2 < (n1 : Int) := by omega) (h3 : n1 < 2147483648 := by omega) : G Γ m_X3_letterAt Ret 0 0 15 [some (vR p0), o1, some (vI a2)] [] w := by
  refine G_aload_n dX3_letterAt_15 rfl ?_
  refine G_iload_n dX3_letterAt_16 rfl ?_
  refine G_cald dX3_letterAt_17 h1 h2 h3 ?_
  refine G_goto dX3_letterAt_18 (tgt := 22) (by decide) ?_
  exact G_reti dX3_letterAt_22 trivial ⟨rfl, Nat.le_of_ble_eq_true rfl⟩ kr
theorem k_X3_takeItem_0 {Γ : Gm} {Ret : Option Value → Wd → Prop} {a1 z2 z4 : Int} {p0 q1 : Nat} {w : Wd} (c3 : SpP Γ m_X6_at [vR q1, vI 0] w z2) (c4 : SpP Γ m_X6_at [vR q1, vI 1] w z4) (k96 : a1 = 115 → G Γ m_X3_takeItem Ret 0 0 96 [some (vR p0), some (vI a1), some (vI z2), some (vI z4)] [] w) (k111 : a1 = 114 → G Γ m_X3_takeItem Ret 0 0 111 [some (vR p0), some (vI a1), some (vI z2), some (vI z4)] [] w) (k147 : a1 = 111 → G Γ m_X3_takeItem Ret 0 0 147 [some (vR p0), some (vI a1), some (vI z2), some (vI z4)] [] w) (k159 : a1 = 104 → G Γ m_X3_takeItem Ret 0 0 159 [some (vR p0), some (vI a1), some (vI z2), some (vI z4)] [] w) (k172 : a1 = 107 → G Γ m_X3_takeItem Ret 0 0 172 [some (vR p0), some (vI a1), some (vI z2), some (vI z4)] [] w) (k207 : a1 = 100 → G Γ m_X3_takeItem Ret 0 0 207 [some (vR p0), some (vI a1), some (vI z2), some (vI z4)] [] w) (kd : (a1 ≠ 100 ∧ a1 ≠ 104 ∧ a1 ≠ 107 ∧ a1 ≠ 111 ∧ a1 ≠ 114 ∧ a1 ≠ 115) → G Γ m_X3_takeItem Ret 0 0 213 [some (vR p0), some (vI a1), some (vI z2), some (vI z4)] [] w) (h1 : sh w p0 = some (.inr 3) := by assumption) (h2 : wR w p0 4 = vR q1 := by assumption) (h5 : sm a1 := by omega) : G Γ m_X3_takeItem Ret 0 0 0 [some (vR p0), some (vI a1), none, none] [] w := by
  refine G_aload_n dX3_takeItem_0 rfl ?_
  refine G_getR dX3_takeItem_1 fl_RX3_24 h1 rfl h2 ?_
  refine G_const dX3_takeItem_4 ?_
  refine G_SP (as := [vR q1, vI 0]) (st := []) n0_X6_at dX3_takeItem_5 ml_RX3_88 mc_X6_at rfl ⟨by decide, ⟨Nat.le_of_ble_eq_true rfl, Nat.le_of_ble_eq_true rfl⟩, Nat.le_of_ble_eq_true rfl⟩ c3 ?_
  refine G_istore_n dX3_takeItem_8 (by decide) rfl ?_
  refine G_aload_n dX3_takeItem_9 rfl ?_
  refine G_getR dX3_takeItem_10 fl_RX3_24 h1 rfl h2 ?_
  refine G_const dX3_takeItem_13 ?_
  refine G_SP (as := [vR q1, vI 1]) (st := []) n0_X6_at dX3_takeItem_14 ml_RX3_88 mc_X6_at rfl ⟨by decide, ⟨Nat.le_of_ble_eq_true rfl, Nat.le_of_ble_eq_true rfl⟩, Nat.le_of_ble_eq_true rfl⟩ c4 ?_
  refine G_istore_n dX3_takeItem_17 (by decide) rfl ?_
  refine G_iload_n dX3_takeItem_18 rfl ?_
  by_cases hq : a1 < 100 ∨ 115 < a1
  · exact G_tableOut dX3_takeItem_19 h5 hq (by decide) (kd (by omega))
  by_cases hv0 : a1 = 100
  · exact G_tableIn (off := 188) (tgt := 207) dX3_takeItem_19 h5 (by omega) (by omega) (by rw [hv0]; rfl) (by decide) (k207 (by omega))
  by_cases hv1 : a1 = 101
  · exact G_tableIn (off := 194) (tgt := 213) dX3_takeItem_19 h5 (by omega) (by omega) (by rw [hv1]; rfl) (by decide) (kd (by omega))
  by_cases hv2 : a1 = 102
  · exact G_tableIn (off := 194) (tgt := 213) dX3_takeItem_19 h5 (by omega) (by omega) (by rw [hv2]; rfl) (by decide) (kd (by omega))
  by_cases hv3 : a1 = 103
  · exact G_tableIn (off := 194) (tgt := 213) dX3_takeItem_19 h5 (by omega) (by omega) (by rw [hv3]; rfl) (by decide) (kd (by omega))
  by_cases hv4 : a1 = 104
  · exact G_tableIn (off := 140) (tgt := 159) dX3_takeItem_19 h5 (by omega) (by omega) (by rw [hv4]; rfl) (by decide) (k159 (by omega))
  by_cases hv5 : a1 = 105
  · exact G_tableIn (off := 194) (tgt := 213) dX3_takeItem_19 h5 (by omega) (by omega) (by rw [hv5]; rfl) (by decide) (kd (by omega))
  by_cases hv6 : a1 = 106
  · exact G_tableIn (off := 194) (tgt := 213) dX3_takeItem_19 h5 (by omega) (by omega) (by rw [hv6]; rfl) (by decide) (kd (by omega))
  by_cases hv7 : a1 = 107
  · exact G_tableIn (off := 153) (tgt := 172) dX3_takeItem_19 h5 (by omega) (by omega) (by rw [hv7]; rfl) (by decide) (k172 (by omega))
  by_cases hv8 : a1 = 108
  · exact G_tableIn (off := 194) (tgt := 213) dX3_takeItem_19 h5 (by omega) (by omega) (by rw [hv8]; rfl) (by decide) (kd (by omega))
  by_cases hv9 : a1 = 109
  · exact G_tableIn (off := 194) (tgt := 213) dX3_takeItem_19 h5 (by omega) (by omega) (by rw [hv9]; rfl) (by decide) (kd (by omega))
  by_cases hv10 : a1 = 110
  · exact G_tableIn (off := 194) (tgt := 213) dX3_takeItem_19 h5 (by omega) (by omega) (by rw [hv10]; rfl) (by decide) (kd (by omega))
  by_cases hv11 : a1 = 111
  · exact G_tableIn (off := 128) (tgt := 147) dX3_takeItem_19 h5 (by omega) (by omega) (by rw [hv11]; rfl) (by decide) (k147 (by omega))
  by_cases hv12 : a1 = 112
  · exact G_tableIn (off := 194) (tgt := 213) dX3_takeItem_19 h5 (by omega) (by omega) (by rw [hv12]; rfl) (by decide) (kd (by omega))
  by_cases hv13 : a1 = 113
  · exact G_tableIn (off := 194) (tgt := 213) dX3_takeItem_19 h5 (by omega) (by omega) (by rw [hv13]; rfl) (by decide) (kd (by omega))
  by_cases hv14 : a1 = 114
  · exact G_tableIn (off := 92) (tgt := 111) dX3_takeItem_19 h5 (by omega) (by omega) (by rw [hv14]; rfl) (by decide) (k111 (by omega))
  by_cases hv15 : a1 = 115
  · exact G_tableIn (off := 77) (tgt := 96) dX3_takeItem_19 h5 (by omega) (by omega) (by rw [hv15]; rfl) (by decide) (k96 (by omega))
  exact absurd hq (by omega)
theorem k_X3_takeItem_96 {Γ : Gm} {Ret : Option Value → Wd → Prop} {a2 a3 z2 : Int} {p0 q1 : Nat} {o1 : Option Value} {w : Wd} {Q : Int → Wd → Prop} (c3 : SpP Γ m_X6_at [vR q1, vI 2] w z2) (c4 : SpI Γ m_X3_takeStrip [vR p0, vI a2, vI a3, vI z2] w Q) (kq : ∀ (z : Int) (u : Wd), Q z u → G Γ m_X3_takeItem Ret 0 0 110 [some (vR p0), o1, some (vI a2), some (vI a3)] [vI z] u) (h1 : sh w p0 = some (.inr 3) := by assumption) (h2 : wR w p0 4 = vR q1 := by assumption) : G Γ m_X3_takeItem Ret 0 0 96 [some (vR p0), o1, some (vI a2), some (vI a3)] [] w := by
  refine G_aload_n dX3_takeItem_96 rfl ?_
  refine G_iload_n dX3_takeItem_97 rfl ?_
  refine G_iload_n dX3_takeItem_98 rfl ?_
  refine G_aload_n dX3_takeItem_99 rfl ?_
  refine G_getR dX3_takeItem_100 fl_RX3_24 h1 rfl h2 ?_
  refine G_const dX3_takeItem_103 ?_
  refine G_SP (as := [vR q1, vI 2]) (st := [vI a3, vI a2, vR p0]) n0_X6_at dX3_takeItem_104 ml_RX3_88 mc_X6_at rfl ⟨by decide, ⟨Nat.le_of_ble_eq_true rfl, Nat.le_of_ble_eq_true rfl⟩, Nat.le_of_ble_eq_true rfl⟩ c3 ?_
  exact G_VI (as := [vI a2, vI a3, vI z2]) (st := []) n0_X3_takeStrip dX3_takeItem_107 ml_RX3_92 mc_X3_takeStrip rfl ⟨by decide, ⟨Nat.le_of_ble_eq_true rfl, Nat.le_of_ble_eq_true rfl⟩, Nat.le_of_ble_eq_true rfl⟩ h1 ⟨_, _, rfl⟩ c4 (fun z u hq => kq z u hq)
theorem k_X3_takeItem_111 {Γ : Gm} {Ret : Option Value → Wd → Prop} {a2 a3 z1 : Int} {p0 : Nat} {o1 : Option Value} {w : Wd} (c2 : SpP Γ m_X6_within [vI a2, vI 1, vI 6] (stI (stI w p0 7 a2) p0 8 a3) z1) (kt : z1 = 0 → G Γ m_X3_takeItem Ret 0 0 145 [some (vR p0), o1, some (vI a2), some (vI a3)] [] (stI (stI w p0 7 a2) p0 8 a3)) (kf : ¬ (z1 = 0) → G Γ m_X3_takeItem Ret 0 0 131 [some (vR p0), o1, some (vI a2), some (vI a3)] [] (stI (stI w p0 7 a2) p0 8 a3)) (h1 : sh w p0 = some (.inr 3) := by assumption) (h3 : sm z1 := by omega) : G Γ m_X3_takeItem Ret 0 0 111 [some (vR p0), o1, some (vI a2), some (vI a3)] [] w := by
  refine G_aload_n dX3_takeItem_111 rfl ?_
  refine G_iload_n dX3_takeItem_112 rfl ?_
  refine G_putI dX3_takeItem_113 fl_RX3_37 h1 rfl ?_
  refine G_aload_n dX3_takeItem_116 rfl ?_
  refine G_iload_n dX3_takeItem_117 rfl ?_
  refine G_putI dX3_takeItem_118 fl_RX3_40 h1 rfl ?_
  refine G_iload_n dX3_takeItem_121 rfl ?_
  refine G_const dX3_takeItem_122 ?_
  refine G_bipush dX3_takeItem_123 (by decide +kernel) ?_
  refine G_SP (as := [vI a2, vI 1, vI 6]) (st := []) n0_X6_within dX3_takeItem_125 ml_RX3_84 mc_X6_within rfl ⟨by decide, ⟨Nat.le_of_ble_eq_true rfl, Nat.le_of_ble_eq_true rfl⟩, Nat.le_of_ble_eq_true rfl⟩ c2 ?_
  exact G_if_eq dX3_takeItem_128 (by decide) h3 kt kf
theorem k_X3_takeItem_147 {Γ : Gm} {Ret : Option Value → Wd → Prop} {a2 z1 : Int} {p0 : Nat} {o1 o3 : Option Value} {w : Wd} (c2 : SpP Γ m_X6_within [vI a2, vI 0, vI 5] (stI w p0 9 a2) z1) (kr : Ret (some (vI z1)) (stI w p0 9 a2)) (h1 : sh w p0 = some (.inr 3) := by assumption) (h3 : z1 = 0 ∨ z1 = 1 := by omega) : G Γ m_X3_takeItem Ret 0 0 147 [some (vR p0), o1, some (vI a2), o3] [] w := by
  refine G_aload_n dX3_takeItem_147 rfl ?_
  refine G_iload_n dX3_takeItem_148 rfl ?_
  refine G_putI dX3_takeItem_149 fl_RX3_43 h1 rfl ?_
  refine G_iload_n dX3_takeItem_152 rfl ?_
  refine G_const dX3_takeItem_153 ?_
  refine G_const dX3_takeItem_154 ?_
  refine G_SP (as := [vI a2, vI 0, vI 5]) (st := []) n0_X6_within dX3_takeItem_155 ml_RX3_84 mc_X6_within rfl ⟨by decide, ⟨Nat.le_of_ble_eq_true rfl, Nat.le_of_ble_eq_true rfl⟩, Nat.le_of_ble_eq_true rfl⟩ c2 ?_
  exact G_reti dX3_takeItem_158 (by rcases h3 with q | q <;> rw [q]; exact Or.inl rfl; exact Or.inr rfl) ⟨rfl, Nat.le_of_ble_eq_true rfl⟩ kr
theorem k_X3_takeItem_159 {Γ : Gm} {Ret : Option Value → Wd → Prop} {a2 z1 : Int} {p0 : Nat} {o1 o3 : Option Value} {w : Wd} (c2 : SpP Γ m_X6_within [vI a2, vI 1, vI 30] (stI w p0 10 a2) z1) (kr : Ret (some (vI z1)) (stI w p0 10 a2)) (h1 : sh w p0 = some (.inr 3) := by assumption) (h3 : z1 = 0 ∨ z1 = 1 := by omega) : G Γ m_X3_takeItem Ret 0 0 159 [some (vR p0), o1, some (vI a2), o3] [] w := by
  refine G_aload_n dX3_takeItem_159 rfl ?_
  refine G_iload_n dX3_takeItem_160 rfl ?_
  refine G_putI dX3_takeItem_161 fl_RX3_46 h1 rfl ?_
  refine G_iload_n dX3_takeItem_164 rfl ?_
  refine G_const dX3_takeItem_165 ?_
  refine G_bipush dX3_takeItem_166 (by decide +kernel) ?_
  refine G_SP (as := [vI a2, vI 1, vI 30]) (st := []) n0_X6_within dX3_takeItem_168 ml_RX3_84 mc_X6_within rfl ⟨by decide, ⟨Nat.le_of_ble_eq_true rfl, Nat.le_of_ble_eq_true rfl⟩, Nat.le_of_ble_eq_true rfl⟩ c2 ?_
  exact G_reti dX3_takeItem_171 (by rcases h3 with q | q <;> rw [q]; exact Or.inl rfl; exact Or.inr rfl) ⟨rfl, Nat.le_of_ble_eq_true rfl⟩ kr
theorem k_X3_takeItem_172 {Γ : Gm} {Ret : Option Value → Wd → Prop} {a2 a3 z1 : Int} {p0 : Nat} {o1 : Option Value} {w : Wd} (c2 : SpP Γ m_X6_within [vI a2, vI 0, vI 3] (stI (stI w p0 11 a2) p0 12 a3) z1) (kt : z1 = 0 → G Γ m_X3_takeItem Ret 0 0 205 [some (vR p0), o1, some (vI a2), some (vI a3)] [] (stI (stI w p0 11 a2) p0 12 a3)) (kf : ¬ (z1 = 0) → G Γ m_X3_takeItem Ret 0 0 191 [some (vR p0), o1, some (vI a2), some (vI a3)] [] (stI (stI w p0 11 a2) p0 12 a3)) (h1 : sh w p0 = some (.inr 3) := by assumption) (h3 : sm z1 := by omega) : G Γ m_X3_takeItem Ret 0 0 172 [some (vR p0), o1, some (vI a2), some (vI a3)] [] w := by
  refine G_aload_n dX3_takeItem_172 rfl ?_
  refine G_iload_n dX3_takeItem_173 rfl ?_
  refine G_putI dX3_takeItem_174 fl_RX3_49 h1 rfl ?_
  refine G_aload_n dX3_takeItem_177 rfl ?_
  refine G_iload_n dX3_takeItem_178 rfl ?_
  refine G_putI dX3_takeItem_179 fl_RX3_52 h1 rfl ?_
  refine G_iload_n dX3_takeItem_182 rfl ?_
  refine G_const dX3_takeItem_183 ?_
  refine G_const dX3_takeItem_184 ?_
  refine G_SP (as := [vI a2, vI 0, vI 3]) (st := []) n0_X6_within dX3_takeItem_185 ml_RX3_84 mc_X6_within rfl ⟨by decide, ⟨Nat.le_of_ble_eq_true rfl, Nat.le_of_ble_eq_true rfl⟩, Nat.le_of_ble_eq_true rfl⟩ c2 ?_
  exact G_if_eq dX3_takeItem_188 (by decide) h3 kt kf
theorem k_X3_takeItem_207 {Γ : Gm} {Ret : Option Value → Wd → Prop} {a2 : Int} {p0 : Nat} {o1 o3 : Option Value} {w : Wd} {Q : Int → Wd → Prop} (c2 : SpI Γ m_X3_takeDamp [vR p0, vI a2] w Q) (kq : ∀ (z : Int) (u : Wd), Q z u → G Γ m_X3_takeItem Ret 0 0 212 [some (vR p0), o1, some (vI a2), o3] [vI z] u) (h1 : sh w p0 = some (.inr 3) := by assumption) : G Γ m_X3_takeItem Ret 0 0 207 [some (vR p0), o1, some (vI a2), o3] [] w := by
  refine G_aload_n dX3_takeItem_207 rfl ?_
  refine G_iload_n dX3_takeItem_208 rfl ?_
  exact G_VI (as := [vI a2]) (st := []) n0_X3_takeDamp dX3_takeItem_209 ml_RX3_95 mc_X3_takeDamp rfl ⟨by decide, ⟨Nat.le_of_ble_eq_true rfl, Nat.le_of_ble_eq_true rfl⟩, Nat.le_of_ble_eq_true rfl⟩ h1 ⟨_, _, rfl⟩ c2 (fun z u hq => kq z u hq)
theorem k_X3_takeItem_213 {Γ : Gm} {Ret : Option Value → Wd → Prop} {o0 o1 o2 o3 : Option Value} {w : Wd} (kr : Ret (some (vI 0)) w) : G Γ m_X3_takeItem Ret 0 0 213 [o0, o1, o2, o3] [] w := by
  refine G_const dX3_takeItem_213 ?_
  exact G_reti dX3_takeItem_214 (Or.inl rfl) ⟨rfl, Nat.le_of_ble_eq_true rfl⟩ kr
theorem k_X3_takeItem_110 {Γ : Gm} {Ret : Option Value → Wd → Prop} {s0 : Int} {o0 o1 o2 o3 : Option Value} {w : Wd} (kr : Ret (some (vI s0)) w) (h1 : s0 = 0 ∨ s0 = 1 := by omega) : G Γ m_X3_takeItem Ret 0 0 110 [o0, o1, o2, o3] [vI s0] w := by
  exact G_reti dX3_takeItem_110 (by rcases h1 with q | q <;> rw [q]; exact Or.inl rfl; exact Or.inr rfl) ⟨rfl, Nat.le_of_ble_eq_true rfl⟩ kr
theorem k_X3_takeItem_145 {Γ : Gm} {Ret : Option Value → Wd → Prop} {o0 o1 o2 o3 : Option Value} {w : Wd} (kr : Ret (some (vI 0)) w) : G Γ m_X3_takeItem Ret 0 0 145 [o0, o1, o2, o3] [] w := by
  refine G_const dX3_takeItem_145 ?_
  exact G_reti dX3_takeItem_146 (Or.inl rfl) ⟨rfl, Nat.le_of_ble_eq_true rfl⟩ kr
theorem k_X3_takeItem_131 {Γ : Gm} {Ret : Option Value → Wd → Prop} {a3 z1 : Int} {o0 o1 o2 : Option Value} {w : Wd} (c1 : SpP Γ m_X6_within [vI a3, vI 1, vI 99] w z1) (kt : z1 = 0 → G Γ m_X3_takeItem Ret 0 0 145 [o0, o1, o2, some (vI a3)] [] w) (kf : ¬ (z1 = 0) → G Γ m_X3_takeItem Ret 0 0 141 [o0, o1, o2, some (vI a3)] [] w) (h2 : sm z1 := by omega) : G Γ m_X3_takeItem Ret 0 0 131 [o0, o1, o2, some (vI a3)] [] w := by
  refine G_iload_n dX3_takeItem_131 rfl ?_
  refine G_const dX3_takeItem_132 ?_
  refine G_bipush dX3_takeItem_133 (by decide +kernel) ?_
  refine G_SP (as := [vI a3, vI 1, vI 99]) (st := []) n0_X6_within dX3_takeItem_135 ml_RX3_84 mc_X6_within rfl ⟨by decide, ⟨Nat.le_of_ble_eq_true rfl, Nat.le_of_ble_eq_true rfl⟩, Nat.le_of_ble_eq_true rfl⟩ c1 ?_
  exact G_if_eq dX3_takeItem_138 (by decide) h2 kt kf
theorem k_X3_takeItem_205 {Γ : Gm} {Ret : Option Value → Wd → Prop} {o0 o1 o2 o3 : Option Value} {w : Wd} (kr : Ret (some (vI 0)) w) : G Γ m_X3_takeItem Ret 0 0 205 [o0, o1, o2, o3] [] w := by
  refine G_const dX3_takeItem_205 ?_
  exact G_reti dX3_takeItem_206 (Or.inl rfl) ⟨rfl, Nat.le_of_ble_eq_true rfl⟩ kr
theorem k_X3_takeItem_191 {Γ : Gm} {Ret : Option Value → Wd → Prop} {a3 z1 : Int} {o0 o1 o2 : Option Value} {w : Wd} (c1 : SpP Γ m_X6_within [vI a3, vI 1, vI 9] w z1) (kt : z1 = 0 → G Γ m_X3_takeItem Ret 0 0 205 [o0, o1, o2, some (vI a3)] [] w) (kf : ¬ (z1 = 0) → G Γ m_X3_takeItem Ret 0 0 201 [o0, o1, o2, some (vI a3)] [] w) (h2 : sm z1 := by omega) : G Γ m_X3_takeItem Ret 0 0 191 [o0, o1, o2, some (vI a3)] [] w := by
  refine G_iload_n dX3_takeItem_191 rfl ?_
  refine G_const dX3_takeItem_192 ?_
  refine G_bipush dX3_takeItem_193 (by decide +kernel) ?_
  refine G_SP (as := [vI a3, vI 1, vI 9]) (st := []) n0_X6_within dX3_takeItem_195 ml_RX3_84 mc_X6_within rfl ⟨by decide, ⟨Nat.le_of_ble_eq_true rfl, Nat.le_of_ble_eq_true rfl⟩, Nat.le_of_ble_eq_true rfl⟩ c1 ?_
  exact G_if_eq dX3_takeItem_198 (by decide) h2 kt kf
theorem k_X3_takeItem_212 {Γ : Gm} {Ret : Option Value → Wd → Prop} {s0 : Int} {o0 o1 o2 o3 : Option Value} {w : Wd} (kr : Ret (some (vI s0)) w) (h1 : s0 = 0 ∨ s0 = 1 := by omega) : G Γ m_X3_takeItem Ret 0 0 212 [o0, o1, o2, o3] [vI s0] w := by
  exact G_reti dX3_takeItem_212 (by rcases h1 with q | q <;> rw [q]; exact Or.inl rfl; exact Or.inr rfl) ⟨rfl, Nat.le_of_ble_eq_true rfl⟩ kr
theorem k_X3_takeItem_141 {Γ : Gm} {Ret : Option Value → Wd → Prop} {o0 o1 o2 o3 : Option Value} {w : Wd} (kr : Ret (some (vI 1)) w) : G Γ m_X3_takeItem Ret 0 0 141 [o0, o1, o2, o3] [] w := by
  refine G_const dX3_takeItem_141 ?_
  refine G_goto dX3_takeItem_142 (tgt := 146) (by decide) ?_
  exact G_reti dX3_takeItem_146 (Or.inr rfl) ⟨rfl, Nat.le_of_ble_eq_true rfl⟩ kr
theorem k_X3_takeItem_201 {Γ : Gm} {Ret : Option Value → Wd → Prop} {o0 o1 o2 o3 : Option Value} {w : Wd} (kr : Ret (some (vI 1)) w) : G Γ m_X3_takeItem Ret 0 0 201 [o0, o1, o2, o3] [] w := by
  refine G_const dX3_takeItem_201 ?_
  refine G_goto dX3_takeItem_202 (tgt := 206) (by decide) ?_
  exact G_reti dX3_takeItem_206 (Or.inr rfl) ⟨rfl, Nat.le_of_ble_eq_true rfl⟩ kr
theorem k_X3_takeStrip_0 {Γ : Gm} {Ret : Option Value → Wd → Prop} {a1 a2 a3 : Int} {p0 : Nat} {w : Wd} (kt : 12 ≤ (wI w p0 5) → G Γ m_X3_takeStrip Ret 0 0 19 [some (vR p0), some (vI a1), some (vI a2), some (vI a3)] [] w) (kf : ¬ (12 ≤ (wI w p0 5)) → G Γ m_X3_takeStrip Ret 0 0 9 [some (vR p0), some (vI a1), some (vI a2), some (vI a3)] [] w) (h1 : sh w p0 = some (.inr 3) := by assumption) (h2 : sm (wI w p0 5) := by omega) : G Γ m_X3_takeStrip Ret 0 0 0 [some (vR p0), some (vI a1), some (vI a2), some (vI a3)] [] w := by
  refine G_aload_n dX3_takeStrip_0 rfl ?_
  refine G_getI dX3_takeStrip_1 fl_RX3_30 h1 rfl ?_
  refine G_bipush dX3_takeStrip_4 (by decide +kernel) ?_
  exact G_icmp_ge dX3_takeStrip_6 (by decide) h2 (by decide) kt kf
theorem k_X3_takeStrip_19 {Γ : Gm} {Ret : Option Value → Wd → Prop} {o0 o1 o2 o3 : Option Value} {w : Wd} (kr : Ret (some (vI 0)) w) : G Γ m_X3_takeStrip Ret 0 0 19 [o0, o1, o2, o3] [] w := by
  refine G_const dX3_takeStrip_19 ?_
  exact G_reti dX3_takeStrip_20 (Or.inl rfl) ⟨rfl, Nat.le_of_ble_eq_true rfl⟩ kr
theorem k_X3_takeStrip_9 {Γ : Gm} {Ret : Option Value → Wd → Prop} {a1 a2 a3 z1 : Int} {p0 : Nat} {w : Wd} (c1 : SpP Γ m_X6_within [vI a1, vI 1, vI 40] w z1) (kt : z1 ≠ 0 → G Γ m_X3_takeStrip Ret 0 0 21 [some (vR p0), some (vI a1), some (vI a2), some (vI a3)] [] w) (kf : z1 = 0 → G Γ m_X3_takeStrip Ret 0 0 19 [some (vR p0), some (vI a1), some (vI a2), some (vI a3)] [] w) (h2 : sm z1 := by omega) : G Γ m_X3_takeStrip Ret 0 0 9 [some (vR p0), some (vI a1), some (vI a2), some (vI a3)] [] w := by
  refine G_iload_n dX3_takeStrip_9 rfl ?_
  refine G_const dX3_takeStrip_10 ?_
  refine G_bipush dX3_takeStrip_11 (by decide +kernel) ?_
  refine G_SP (as := [vI a1, vI 1, vI 40]) (st := []) n0_X6_within dX3_takeStrip_13 ml_RX3_84 mc_X6_within rfl ⟨by decide, ⟨Nat.le_of_ble_eq_true rfl, Nat.le_of_ble_eq_true rfl⟩, Nat.le_of_ble_eq_true rfl⟩ c1 ?_
  exact G_if_ne dX3_takeStrip_16 (by decide) h2 kt kf
theorem k_X3_takeStrip_21 {Γ : Gm} {Ret : Option Value → Wd → Prop} {a1 a2 a3 z1 : Int} {p0 : Nat} {w : Wd} (c1 : SpP Γ m_X6_within [vI a2, vI 0, vI 9] w z1) (kt : z1 = 0 → G Γ m_X3_takeStrip Ret 0 0 41 [some (vR p0), some (vI a1), some (vI a2), some (vI a3)] [] w) (kf : ¬ (z1 = 0) → G Γ m_X3_takeStrip Ret 0 0 31 [some (vR p0), some (vI a1), some (vI a2), some (vI a3)] [] w) (h2 : sm z1 := by omega) : G Γ m_X3_takeStrip Ret 0 0 21 [some (vR p0), some (vI a1), some (vI a2), some (vI a3)] [] w := by
  refine G_iload_n dX3_takeStrip_21 rfl ?_
  refine G_const dX3_takeStrip_22 ?_
  refine G_bipush dX3_takeStrip_23 (by decide +kernel) ?_
  refine G_SP (as := [vI a2, vI 0, vI 9]) (st := []) n0_X6_within dX3_takeStrip_25 ml_RX3_84 mc_X6_within rfl ⟨by decide, ⟨Nat.le_of_ble_eq_true rfl, Nat.le_of_ble_eq_true rfl⟩, Nat.le_of_ble_eq_true rfl⟩ c1 ?_
  exact G_if_eq dX3_takeStrip_28 (by decide) h2 kt kf
theorem k_X3_takeStrip_41 {Γ : Gm} {Ret : Option Value → Wd → Prop} {o0 o1 o2 o3 : Option Value} {w : Wd} (kr : Ret (some (vI 0)) w) : G Γ m_X3_takeStrip Ret 0 0 41 [o0, o1, o2, o3] [] w := by
  refine G_const dX3_takeStrip_41 ?_
  exact G_reti dX3_takeStrip_42 (Or.inl rfl) ⟨rfl, Nat.le_of_ble_eq_true rfl⟩ kr
theorem k_X3_takeStrip_31 {Γ : Gm} {Ret : Option Value → Wd → Prop} {a1 a2 a3 z1 : Int} {p0 : Nat} {w : Wd} (c1 : SpP Γ m_X6_within [vI a3, vI 0, vI 9] w z1) (kt : z1 ≠ 0 → G Γ m_X3_takeStrip Ret 0 0 43 [some (vR p0), some (vI a1), some (vI a2), some (vI a3)] [] w) (kf : z1 = 0 → G Γ m_X3_takeStrip Ret 0 0 41 [some (vR p0), some (vI a1), some (vI a2), some (vI a3)] [] w) (h2 : sm z1 := by omega) : G Γ m_X3_takeStrip Ret 0 0 31 [some (vR p0), some (vI a1), some (vI a2), some (vI a3)] [] w := by
  refine G_iload_n dX3_takeStrip_31 rfl ?_
  refine G_const dX3_takeStrip_32 ?_
  refine G_bipush dX3_takeStrip_33 (by decide +kernel) ?_
  refine G_SP (as := [vI a3, vI 0, vI 9]) (st := []) n0_X6_within dX3_takeStrip_35 ml_RX3_84 mc_X6_within rfl ⟨by decide, ⟨Nat.le_of_ble_eq_true rfl, Nat.le_of_ble_eq_true rfl⟩, Nat.le_of_ble_eq_true rfl⟩ c1 ?_
  exact G_if_ne dX3_takeStrip_38 (by decide) h2 kt kf
theorem k_X3_takeStrip_43 {Γ : Gm} {Ret : Option Value → Wd → Prop} {a1 a2 a3 : Int} {p0 q1 : Nat} {w : Wd} {Q : Wd → Prop} (c3 : SpV Γ m_X6_put [vR q1, vI (wI w p0 5), vI a1] w Q) (kq : ∀ u : Wd, Q u → G Γ m_X3_takeStrip Ret 0 0 55 [some (vR p0), some (vI a1), some (vI a2), some (vI a3)] [] u) (h1 : sh w p0 = some (.inr 3) := by assumption) (h2 : wR w p0 0 = vR q1 := by assumption) : G Γ m_X3_takeStrip Ret 0 0 43 [some (vR p0), some (vI a1), some (vI a2), some (vI a3)] [] w := by
  refine G_aload_n dX3_takeStrip_43 rfl ?_
  refine G_getR dX3_takeStrip_44 fl_RX3_9 h1 rfl h2 ?_
  refine G_aload_n dX3_takeStrip_47 rfl ?_
  refine G_getI dX3_takeStrip_48 fl_RX3_30 h1 rfl ?_
  refine G_iload_n dX3_takeStrip_51 rfl ?_
  exact G_SV (as := [vR q1, vI (wI w p0 5), vI a1]) (st := []) n0_X6_put dX3_takeStrip_52 ml_RX3_77 mc_X6_put rfl ⟨by decide, ⟨Nat.le_of_ble_eq_true rfl, Nat.le_of_ble_eq_true rfl⟩, Nat.le_of_ble_eq_true rfl⟩ c3 (fun u hq => kq u hq)
theorem k_X3_takeStrip_55 {Γ : Gm} {Ret : Option Value → Wd → Prop} {a2 a3 : Int} {p0 q1 : Nat} {o1 : Option Value} {w : Wd} {Q : Wd → Prop} (c3 : SpV Γ m_X6_put [vR q1, vI (wI w p0 5), vI a2] w Q) (kq : ∀ u : Wd, Q u → G Γ m_X3_takeStrip Ret 0 0 67 [some (vR p0), o1, some (vI a2), some (vI a3)] [] u) (h1 : sh w p0 = some (.inr 3) := by assumption) (h2 : wR w p0 1 = vR q1 := by assumption) : G Γ m_X3_takeStrip Ret 0 0 55 [some (vR p0), o1, some (vI a2), some (vI a3)] [] w := by
  refine G_aload_n dX3_takeStrip_55 rfl ?_
  refine G_getR dX3_takeStrip_56 fl_RX3_15 h1 rfl h2 ?_
  refine G_aload_n dX3_takeStrip_59 rfl ?_
  refine G_getI dX3_takeStrip_60 fl_RX3_30 h1 rfl ?_
  refine G_iload_n dX3_takeStrip_63 rfl ?_
  exact G_SV (as := [vR q1, vI (wI w p0 5), vI a2]) (st := []) n0_X6_put dX3_takeStrip_64 ml_RX3_77 mc_X6_put rfl ⟨by decide, ⟨Nat.le_of_ble_eq_true rfl, Nat.le_of_ble_eq_true rfl⟩, Nat.le_of_ble_eq_true rfl⟩ c3 (fun u hq => kq u hq)
theorem k_X3_takeStrip_67 {Γ : Gm} {Ret : Option Value → Wd → Prop} {a3 : Int} {p0 q1 : Nat} {o1 o2 : Option Value} {w : Wd} {Q : Wd → Prop} (c3 : SpV Γ m_X6_put [vR q1, vI (wI w p0 5), vI a3] w Q) (kq : ∀ u : Wd, Q u → G Γ m_X3_takeStrip Ret 0 0 79 [some (vR p0), o1, o2, some (vI a3)] [] u) (h1 : sh w p0 = some (.inr 3) := by assumption) (h2 : wR w p0 2 = vR q1 := by assumption) : G Γ m_X3_takeStrip Ret 0 0 67 [some (vR p0), o1, o2, some (vI a3)] [] w := by
  refine G_aload_n dX3_takeStrip_67 rfl ?_
  refine G_getR dX3_takeStrip_68 fl_RX3_18 h1 rfl h2 ?_
  refine G_aload_n dX3_takeStrip_71 rfl ?_
  refine G_getI dX3_takeStrip_72 fl_RX3_30 h1 rfl ?_
  refine G_iload_n dX3_takeStrip_75 rfl ?_
  exact G_SV (as := [vR q1, vI (wI w p0 5), vI a3]) (st := []) n0_X6_put dX3_takeStrip_76 ml_RX3_77 mc_X6_put rfl ⟨by decide, ⟨Nat.le_of_ble_eq_true rfl, Nat.le_of_ble_eq_true rfl⟩, Nat.le_of_ble_eq_true rfl⟩ c3 (fun u hq => kq u hq)
theorem k_X3_takeStrip_79 {Γ : Gm} {Ret : Option Value → Wd → Prop} {p0 : Nat} {o1 o2 o3 : Option Value} {w : Wd} (kr : Ret (some (vI 1)) (stI w p0 5 ((wI w p0 5) + 1))) (h1 : sh w p0 = some (.inr 3) := by assumption) : G Γ m_X3_takeStrip Ret 0 0 79 [some (vR p0), o1, o2, o3] [] w := by
  refine G_aload_n dX3_takeStrip_79 rfl ?_
  refine G_dup dX3_takeStrip_80 rfl ?_
  refine G_getI dX3_takeStrip_81 fl_RX3_30 h1 rfl ?_
  refine G_const dX3_takeStrip_84 ?_
  refine G_iadd dX3_takeStrip_85 ?_
  refine G_putI dX3_takeStrip_86 fl_RX3_30 h1 rfl ?_
  refine G_const dX3_takeStrip_89 ?_
  exact G_reti dX3_takeStrip_90 (Or.inr rfl) ⟨rfl, Nat.le_of_ble_eq_true rfl⟩ kr
theorem k_X3_takeDamp_0 {Γ : Gm} {Ret : Option Value → Wd → Prop} {a1 : Int} {p0 : Nat} {w : Wd} (kt : 12 ≤ (wI w p0 6) → G Γ m_X3_takeDamp Ret 0 0 19 [some (vR p0), some (vI a1)] [] w) (kf : ¬ (12 ≤ (wI w p0 6)) → G Γ m_X3_takeDamp Ret 0 0 9 [some (vR p0), some (vI a1)] [] w) (h1 : sh w p0 = some (.inr 3) := by assumption) (h2 : sm (wI w p0 6) := by omega) : G Γ m_X3_takeDamp Ret 0 0 0 [some (vR p0), some (vI a1)] [] w := by
  refine G_aload_n dX3_takeDamp_0 rfl ?_
  refine G_getI dX3_takeDamp_1 fl_RX3_34 h1 rfl ?_
  refine G_bipush dX3_takeDamp_4 (by decide +kernel) ?_
  exact G_icmp_ge dX3_takeDamp_6 (by decide) h2 (by decide) kt kf
theorem k_X3_takeDamp_19 {Γ : Gm} {Ret : Option Value → Wd → Prop} {o0 o1 : Option Value} {w : Wd} (kr : Ret (some (vI 0)) w) : G Γ m_X3_takeDamp Ret 0 0 19 [o0, o1] [] w := by
  refine G_const dX3_takeDamp_19 ?_
  exact G_reti dX3_takeDamp_20 (Or.inl rfl) ⟨rfl, Nat.le_of_ble_eq_true rfl⟩ kr
theorem k_X3_takeDamp_9 {Γ : Gm} {Ret : Option Value → Wd → Prop} {a1 z1 : Int} {p0 : Nat} {w : Wd} (c1 : SpP Γ m_X6_within [vI a1, vI 0, vI 9] w z1) (kt : z1 ≠ 0 → G Γ m_X3_takeDamp Ret 0 0 21 [some (vR p0), some (vI a1)] [] w) (kf : z1 = 0 → G Γ m_X3_takeDamp Ret 0 0 19 [some (vR p0), some (vI a1)] [] w) (h2 : sm z1 := by omega) : G Γ m_X3_takeDamp Ret 0 0 9 [some (vR p0), some (vI a1)] [] w := by
  refine G_iload_n dX3_takeDamp_9 rfl ?_
  refine G_const dX3_takeDamp_10 ?_
  refine G_bipush dX3_takeDamp_11 (by decide +kernel) ?_
  refine G_SP (as := [vI a1, vI 0, vI 9]) (st := []) n0_X6_within dX3_takeDamp_13 ml_RX3_84 mc_X6_within rfl ⟨by decide, ⟨Nat.le_of_ble_eq_true rfl, Nat.le_of_ble_eq_true rfl⟩, Nat.le_of_ble_eq_true rfl⟩ c1 ?_
  exact G_if_ne dX3_takeDamp_16 (by decide) h2 kt kf
theorem k_X3_takeDamp_21 {Γ : Gm} {Ret : Option Value → Wd → Prop} {a1 : Int} {p0 q1 : Nat} {w : Wd} {Q : Wd → Prop} (c3 : SpV Γ m_X6_put [vR q1, vI (wI w p0 6), vI a1] w Q) (kq : ∀ u : Wd, Q u → G Γ m_X3_takeDamp Ret 0 0 33 [some (vR p0), some (vI a1)] [] u) (h1 : sh w p0 = some (.inr 3) := by assumption) (h2 : wR w p0 3 = vR q1 := by assumption) : G Γ m_X3_takeDamp Ret 0 0 21 [some (vR p0), some (vI a1)] [] w := by
  refine G_aload_n dX3_takeDamp_21 rfl ?_
  refine G_getR dX3_takeDamp_22 fl_RX3_21 h1 rfl h2 ?_
  refine G_aload_n dX3_takeDamp_25 rfl ?_
  refine G_getI dX3_takeDamp_26 fl_RX3_34 h1 rfl ?_
  refine G_iload_n dX3_takeDamp_29 rfl ?_
  exact G_SV (as := [vR q1, vI (wI w p0 6), vI a1]) (st := []) n0_X6_put dX3_takeDamp_30 ml_RX3_77 mc_X6_put rfl ⟨by decide, ⟨Nat.le_of_ble_eq_true rfl, Nat.le_of_ble_eq_true rfl⟩, Nat.le_of_ble_eq_true rfl⟩ c3 (fun u hq => kq u hq)
theorem k_X3_takeDamp_33 {Γ : Gm} {Ret : Option Value → Wd → Prop} {p0 : Nat} {o1 : Option Value} {w : Wd} (kr : Ret (some (vI 1)) (stI w p0 6 ((wI w p0 6) + 1))) (h1 : sh w p0 = some (.inr 3) := by assumption) : G Γ m_X3_takeDamp Ret 0 0 33 [some (vR p0), o1] [] w := by
  refine G_aload_n dX3_takeDamp_33 rfl ?_
  refine G_dup dX3_takeDamp_34 rfl ?_
  refine G_getI dX3_takeDamp_35 fl_RX3_34 h1 rfl ?_
  refine G_const dX3_takeDamp_38 ?_
  refine G_iadd dX3_takeDamp_39 ?_
  refine G_putI dX3_takeDamp_40 fl_RX3_34 h1 rfl ?_
  refine G_const dX3_takeDamp_43 ?_
  exact G_reti dX3_takeDamp_44 (Or.inr rfl) ⟨rfl, Nat.le_of_ble_eq_true rfl⟩ kr
theorem k_X3_lengthOfStrip_0 {Γ : Gm} {Ret : Option Value → Wd → Prop} {a1 z2 : Int} {p0 q1 : Nat} {w : Wd} (c3 : SpP Γ m_X6_at [vR q1, vI a1] w z2) (kr : Ret (some (vI z2)) w) (h1 : sh w p0 = some (.inr 3) := by assumption) (h2 : wR w p0 0 = vR q1 := by assumption) : G Γ m_X3_lengthOfStrip Ret 0 0 0 [some (vR p0), some (vI a1)] [] w := by
  refine G_aload_n dX3_lengthOfStrip_0 rfl ?_
  refine G_getR dX3_lengthOfStrip_1 fl_RX3_9 h1 rfl h2 ?_
  refine G_iload_n dX3_lengthOfStrip_4 rfl ?_
  refine G_SP (as := [vR q1, vI a1]) (st := []) n0_X6_at dX3_lengthOfStrip_5 ml_RX3_88 mc_X6_at rfl ⟨by decide, ⟨Nat.le_of_ble_eq_true rfl, Nat.le_of_ble_eq_true rfl⟩, Nat.le_of_ble_eq_true rfl⟩ c3 ?_
  exact G_reti dX3_lengthOfStrip_8 trivial ⟨rfl, Nat.le_of_ble_eq_true rfl⟩ kr
theorem k_X3_lightAt_0 {Γ : Gm} {Ret : Option Value → Wd → Prop} {a1 z2 : Int} {p0 q1 : Nat} {w : Wd} (c3 : SpP Γ m_X6_at [vR q1, vI a1] w z2) (kr : Ret (some (vI z2)) w) (h1 : sh w p0 = some (.inr 3) := by assumption) (h2 : wR w p0 1 = vR q1 := by assumption) : G Γ m_X3_lightAt Ret 0 0 0 [some (vR p0), some (vI a1)] [] w := by
  refine G_aload_n dX3_lightAt_0 rfl ?_
  refine G_getR dX3_lightAt_1 fl_RX3_15 h1 rfl h2 ?_
  refine G_iload_n dX3_lightAt_4 rfl ?_
  refine G_SP (as := [vR q1, vI a1]) (st := []) n0_X6_at dX3_lightAt_5 ml_RX3_88 mc_X6_at rfl ⟨by decide, ⟨Nat.le_of_ble_eq_true rfl, Nat.le_of_ble_eq_true rfl⟩, Nat.le_of_ble_eq_true rfl⟩ c3 ?_
  exact G_reti dX3_lightAt_8 trivial ⟨rfl, Nat.le_of_ble_eq_true rfl⟩ kr
theorem k_X3_treadAt_0 {Γ : Gm} {Ret : Option Value → Wd → Prop} {a1 z2 : Int} {p0 q1 : Nat} {w : Wd} (c3 : SpP Γ m_X6_at [vR q1, vI a1] w z2) (kr : Ret (some (vI z2)) w) (h1 : sh w p0 = some (.inr 3) := by assumption) (h2 : wR w p0 2 = vR q1 := by assumption) : G Γ m_X3_treadAt Ret 0 0 0 [some (vR p0), some (vI a1)] [] w := by
  refine G_aload_n dX3_treadAt_0 rfl ?_
  refine G_getR dX3_treadAt_1 fl_RX3_18 h1 rfl h2 ?_
  refine G_iload_n dX3_treadAt_4 rfl ?_
  refine G_SP (as := [vR q1, vI a1]) (st := []) n0_X6_at dX3_treadAt_5 ml_RX3_88 mc_X6_at rfl ⟨by decide, ⟨Nat.le_of_ble_eq_true rfl, Nat.le_of_ble_eq_true rfl⟩, Nat.le_of_ble_eq_true rfl⟩ c3 ?_
  exact G_reti dX3_treadAt_8 trivial ⟨rfl, Nat.le_of_ble_eq_true rfl⟩ kr
theorem k_X3_dampOf_0 {Γ : Gm} {Ret : Option Value → Wd → Prop} {a1 : Int} {p0 : Nat} {w : Wd} (kt : (wI w p0 6) ≤ 0 → G Γ m_X3_dampOf Ret 0 0 23 [some (vR p0), some (vI a1)] [] w) (kf : ¬ ((wI w p0 6) ≤ 0) → G Γ m_X3_dampOf Ret 0 0 7 [some (vR p0), some (vI a1)] [] w) (h1 : sh w p0 = some (.inr 3) := by assumption) (h2 : sm (wI w p0 6) := by omega) : G Γ m_X3_dampOf Ret 0 0 0 [some (vR p0), some (vI a1)] [] w := by
  refine G_aload_n dX3_dampOf_0 rfl ?_
  refine G_getI dX3_dampOf_1 fl_RX3_34 h1 rfl ?_
  exact G_if_le dX3_dampOf_4 (by decide) h2 kt kf
theorem k_X3_dampOf_23 {Γ : Gm} {Ret : Option Value → Wd → Prop} {o0 o1 : Option Value} {w : Wd} (kr : Ret (some (vI 4)) w) : G Γ m_X3_dampOf Ret 0 0 23 [o0, o1] [] w := by
  refine G_const dX3_dampOf_23 ?_
  exact G_reti dX3_dampOf_24 trivial ⟨rfl, Nat.le_of_ble_eq_true rfl⟩ kr
theorem k_X3_dampOf_7 {Γ : Gm} {Ret : Option Value → Wd → Prop} {a1 z2 : Int} {p0 q1 : Nat} {w : Wd} (c7 : SpP Γ m_X6_at [vR q1, vI (Int.tmod a1 (wI w p0 6))] w z2) (kr : Ret (some (vI z2)) w) (h1 : sh w p0 = some (.inr 3) := by assumption) (h2 : wR w p0 3 = vR q1 := by assumption) (h3 : sm a1 := by omega) (h4 : sm (wI w p0 6) := by omega) (h5 : (wI w p0 6) ≠ 0 := by omega) (h6 : (wI w p0 6) ≠ -1 := by omega) : G Γ m_X3_dampOf Ret 0 0 7 [some (vR p0), some (vI a1)] [] w := by
  refine G_aload_n dX3_dampOf_7 rfl ?_
  refine G_getR dX3_dampOf_8 fl_RX3_21 h1 rfl h2 ?_
  refine G_iload_n dX3_dampOf_11 rfl ?_
  refine G_aload_n dX3_dampOf_12 rfl ?_
  refine G_getI dX3_dampOf_13 fl_RX3_34 h1 rfl ?_
  refine G_irem dX3_dampOf_16 h3 h4 h5 h6 ?_
  refine G_SP (as := [vR q1, vI (Int.tmod a1 (wI w p0 6))]) (st := []) n0_X6_at dX3_dampOf_17 ml_RX3_88 mc_X6_at rfl ⟨by decide, ⟨Nat.le_of_ble_eq_true rfl, Nat.le_of_ble_eq_true rfl⟩, Nat.le_of_ble_eq_true rfl⟩ c7 ?_
  refine G_goto dX3_dampOf_20 (tgt := 24) (by decide) ?_
  exact G_reti dX3_dampOf_24 trivial ⟨rfl, Nat.le_of_ble_eq_true rfl⟩ kr
theorem k_X3_slackeningIn_0 {Γ : Gm} {Ret : Option Value → Wd → Prop} {a1 z1 : Int} {p0 : Nat} {w : Wd} (c2 : SpP Γ m_X3_dampOf [vR p0, vI a1] w z1) (kr : Ret (some (vI (Int.tdiv z1 3))) w) (h1 : sh w p0 = some (.inr 3) := by assumption) (h3 : sm z1 := by omega) : G Γ m_X3_slackeningIn Ret 0 0 0 [some (vR p0), some (vI a1)] [] w := by
  refine G_aload_n dX3_slackeningIn_0 rfl ?_
  refine G_iload_n dX3_slackeningIn_1 rfl ?_
  refine G_VP (as := [vI a1]) (st := []) n0_X3_dampOf dX3_slackeningIn_2 ml_RX3_98 mc_X3_dampOf rfl ⟨by decide, ⟨Nat.le_of_ble_eq_true rfl, Nat.le_of_ble_eq_true rfl⟩, Nat.le_of_ble_eq_true rfl⟩ h1 ⟨_, _, rfl⟩ c2 ?_
  refine G_const dX3_slackeningIn_5 ?_
  refine G_idiv dX3_slackeningIn_6 h3 (by decide) (by decide) (by decide) ?_
  exact G_reti dX3_slackeningIn_7 trivial ⟨rfl, Nat.le_of_ble_eq_true rfl⟩ kr
theorem k_X3_lengthFor_0 {Γ : Gm} {Ret : Option Value → Wd → Prop} {a1 a2 : Int} {p0 : Nat} {w : Wd} (km : G Γ m_X3_lengthFor Ret 0 0 5 [some (vR p0), some (vI a1), some (vI a2), some (vI 0), some (vI 0)] [] w) : G Γ m_X3_lengthFor Ret 0 0 0 [some (vR p0), some (vI a1), some (vI a2), none, none] [] w := by
  refine G_const dX3_lengthFor_0 ?_
  refine G_istore_n dX3_lengthFor_1 (by decide) rfl ?_
  refine G_const dX3_lengthFor_2 ?_
  refine G_istore dX3_lengthFor_3 (by decide) rfl ?_
  exact km
theorem k_X3_lengthFor_5 {Γ : Gm} {Ret : Option Value → Wd → Prop} {a1 a2 a3 a4 : Int} {p0 : Nat} {w : Wd} (kt : a2 ≤ a4 → G Γ m_X3_lengthFor Ret 0 0 33 [some (vR p0), some (vI a1), some (vI a2), some (vI a3), some (vI a4)] [] w) (kf : ¬ (a2 ≤ a4) → G Γ m_X3_lengthFor Ret 0 0 11 [some (vR p0), some (vI a1), some (vI a2), some (vI a3), some (vI a4)] [] w) (h1 : sm a4 := by omega) (h2 : sm a2 := by omega) : G Γ m_X3_lengthFor Ret 0 0 5 [some (vR p0), some (vI a1), some (vI a2), some (vI a3), some (vI a4)] [] w := by
  refine G_iload dX3_lengthFor_5 rfl ?_
  refine G_iload_n dX3_lengthFor_7 rfl ?_
  exact G_icmp_ge dX3_lengthFor_8 (by decide) h1 h2 kt kf
theorem k_X3_lengthFor_33 {Γ : Gm} {Ret : Option Value → Wd → Prop} {a3 : Int} {p0 : Nat} {o1 o2 o4 : Option Value} {w : Wd} (kr : Ret (some (vI (a3 + (wI w p0 9)))) w) (h1 : sh w p0 = some (.inr 3) := by assumption) : G Γ m_X3_lengthFor Ret 0 0 33 [some (vR p0), o1, o2, some (vI a3), o4] [] w := by
  refine G_iload_n dX3_lengthFor_33 rfl ?_
  refine G_aload_n dX3_lengthFor_34 rfl ?_
  refine G_getI dX3_lengthFor_35 fl_RX3_43 h1 rfl ?_
  refine G_iadd dX3_lengthFor_38 ?_
  exact G_reti dX3_lengthFor_39 trivial ⟨rfl, Nat.le_of_ble_eq_true rfl⟩ kr
theorem k_X3_lengthFor_11 {Γ : Gm} {Ret : Option Value → Wd → Prop} {a1 a2 a3 a4 z2 : Int} {p0 q1 : Nat} {w : Wd} (c3 : SpP Γ m_X6_at [vR q1, vI (a1 + a4)] w z2) (km : G Γ m_X3_lengthFor Ret 0 0 5 [some (vR p0), some (vI a1), some (vI a2), some (vI (max a3 z2)), some (vI (a4 + 1))] [] w) (h1 : sh w p0 = some (.inr 3) := by assumption) (h2 : wR w p0 0 = vR q1 := by assumption) (h4 : sm a3 := by omega) (h5 : sm z2 := by omega) : G Γ m_X3_lengthFor Ret 0 0 11 [some (vR p0), some (vI a1), some (vI a2), some (vI a3), some (vI a4)] [] w := by
  refine G_iload_n dX3_lengthFor_11 rfl ?_
  refine G_aload_n dX3_lengthFor_12 rfl ?_
  refine G_getR dX3_lengthFor_13 fl_RX3_9 h1 rfl h2 ?_
  refine G_iload_n dX3_lengthFor_16 rfl ?_
  refine G_iload dX3_lengthFor_17 rfl ?_
  refine G_iadd dX3_lengthFor_19 ?_
  refine G_SP (as := [vR q1, vI (a1 + a4)]) (st := [vI a3]) n0_X6_at dX3_lengthFor_20 ml_RX3_88 mc_X6_at rfl ⟨by decide, ⟨Nat.le_of_ble_eq_true rfl, Nat.le_of_ble_eq_true rfl⟩, Nat.le_of_ble_eq_true rfl⟩ c3 ?_
  refine G_mmax dX3_lengthFor_23 tb_492 tb_179 tb_44 tb_180 h4 h5 ⟨Nat.le_of_ble_eq_true rfl, Nat.le_of_ble_eq_true rfl⟩ ⟨Nat.le_of_ble_eq_true rfl, Nat.le_of_ble_eq_true rfl⟩ ?_
  refine G_istore_n dX3_lengthFor_26 (by decide) rfl ?_
  refine G_iinc dX3_lengthFor_27 (by decide) rfl rfl ?_
  refine G_goto dX3_lengthFor_30 (tgt := 5) (by decide) ?_
  exact km
-- skipped X4_init 0: anewarray
theorem k_X4_clear_0 {Γ : Gm} {Ret : Option Value → Wd → Prop} {p0 : Nat} {w : Wd} (kr : Ret none (stI (stI w p0 1 0) p0 2 0)) (h1 : sh w p0 = some (.inr 4) := by assumption) : G Γ m_X4_clear Ret 0 0 0 [some (vR p0)] [] w := by
  refine G_aload_n dX4_clear_0 rfl ?_
  refine G_const dX4_clear_1 ?_
  refine G_putI dX4_clear_2 fl_RX4_22 h1 rfl ?_
  refine G_aload_n dX4_clear_5 rfl ?_
  refine G_const dX4_clear_6 ?_
  refine G_putI dX4_clear_7 fl_RX4_26 h1 rfl ?_
  exact G_retv dX4_clear_10 trivial ⟨rfl, Nat.le_of_ble_eq_true rfl⟩ kr
theorem k_X4_isFull_0 {Γ : Gm} {Ret : Option Value → Wd → Prop} {p0 q1 n2 : Nat} {w : Wd} (kt : (wI w p0 2) < (n2 : Int) → G Γ m_X4_isFull Ret 0 0 16 [some (vR p0)] [] w) (kf : ¬ ((wI w p0 2) < (n2 : Int)) → G Γ m_X4_isFull Ret 0 0 12 [some (vR p0)] [] w) (h1 : sh w p0 = some (.inr 4) := by assumption) (h2 : wR w p0 0 = vR q1 := by assumption) (h3 : sh w q1 = some (.inl (2, n2)) := by assumption) (h4 : sm (wI w p0 2) := by omega) (h5 : sm (n2 : Int) := by omega) : G Γ m_X4_isFull Ret 0 0 0 [some (vR p0)] [] w := by
  refine G_aload_n dX4_isFull_0 rfl ?_
  refine G_getI dX4_isFull_1 fl_RX4_26 h1 rfl ?_
  refine G_aload_n dX4_isFull_4 rfl ?_
  refine G_getR dX4_isFull_5 fl_RX4_15 h1 rfl h2 ?_
  refine G_alen dX4_isFull_8 h3 (by decide) ?_
  exact G_icmp_lt dX4_isFull_9 (by decide) h4 h5 kt kf
theorem k_X4_isFull_16 {Γ : Gm} {Ret : Option Value → Wd → Prop} {o0 : Option Value} {w : Wd} (kr : Ret (some (vI 0)) w) : G Γ m_X4_isFull Ret 0 0 16 [o0] [] w := by
  refine G_const dX4_isFull_16 ?_
  exact G_reti dX4_isFull_17 (Or.inl rfl) ⟨rfl, Nat.le_of_ble_eq_true rfl⟩ kr
theorem k_X4_isFull_12 {Γ : Gm} {Ret : Option Value → Wd → Prop} {o0 : Option Value} {w : Wd} (kr : Ret (some (vI 1)) w) : G Γ m_X4_isFull Ret 0 0 12 [o0] [] w := by
  refine G_const dX4_isFull_12 ?_
  refine G_goto dX4_isFull_13 (tgt := 17) (by decide) ?_
  exact G_reti dX4_isFull_17 (Or.inr rfl) ⟨rfl, Nat.le_of_ble_eq_true rfl⟩ kr
theorem k_X4_rowAt_0 {Γ : Gm} {Ret : Option Value → Wd → Prop} {a1 : Int} {p0 : Nat} {w : Wd} (kt : a1 < 0 → G Γ m_X4_rowAt Ret 0 0 22 [some (vR p0), some (vI a1)] [] w) (kf : ¬ (a1 < 0) → G Γ m_X4_rowAt Ret 0 0 4 [some (vR p0), some (vI a1)] [] w) (h1 : sm a1 := by omega) : G Γ m_X4_rowAt Ret 0 0 0 [some (vR p0), some (vI a1)] [] w := by
  refine G_iload_n dX4_rowAt_0 rfl ?_
  exact G_if_lt dX4_rowAt_1 (by decide) h1 kt kf
-- skipped X4_rowAt 22: null
theorem k_X4_rowAt_4 {Γ : Gm} {Ret : Option Value → Wd → Prop} {a1 : Int} {p0 q1 n2 : Nat} {w : Wd} (kt : (n2 : Int) ≤ a1 → G Γ m_X4_rowAt Ret 0 0 22 [some (vR p0), some (vI a1)] [] w) (kf : ¬ ((n2 : Int) ≤ a1) → G Γ m_X4_rowAt Ret 0 0 13 [some (vR p0), some (vI a1)] [] w) (h1 : sh w p0 = some (.inr 4) := by assumption) (h2 : wR w p0 0 = vR q1 := by assumption) (h3 : sh w q1 = some (.inl (2, n2)) := by assumption) (h4 : sm a1 := by omega) (h5 : sm (n2 : Int) := by omega) : G Γ m_X4_rowAt Ret 0 0 4 [some (vR p0), some (vI a1)] [] w := by
  refine G_iload_n dX4_rowAt_4 rfl ?_
  refine G_aload_n dX4_rowAt_5 rfl ?_
  refine G_getR dX4_rowAt_6 fl_RX4_15 h1 rfl h2 ?_
  refine G_alen dX4_rowAt_9 h3 (by decide) ?_
  exact G_icmp_ge dX4_rowAt_10 (by decide) h4 h5 kt kf
theorem k_X4_rowAt_13 {Γ : Gm} {Ret : Option Value → Wd → Prop} {a1 : Int} {p0 q1 q3 n2 : Nat} {w : Wd} (kr : Ret (some (vR q3)) w) (h1 : sh w p0 = some (.inr 4) := by assumption) (h2 : wR w p0 0 = vR q1 := by assumption) (h3 : sh w q1 = some (.inl (2, n2)) := by assumption) (h4 : (0 : Int) ≤ a1 ∧ a1 < (n2 : Int) := by omega) (h5 : n2 < 2147483648 := by omega) (h6 : wR w q1 a1 = vR q3 := by assumption) : G Γ m_X4_rowAt Ret 0 0 13 [some (vR p0), some (vI a1)] [] w := by
  refine G_aload_n dX4_rowAt_13 rfl ?_
  refine G_getR dX4_rowAt_14 fl_RX4_15 h1 rfl h2 ?_
  refine G_iload_n dX4_rowAt_17 rfl ?_
  refine G_aald dX4_rowAt_18 h3 h4 h5 h6 ?_
  refine G_goto dX4_rowAt_19 (tgt := 23) (by decide) ?_
  exact G_retr dX4_rowAt_23 trivial ⟨rfl, Nat.le_of_ble_eq_true rfl⟩ kr
theorem k_X4_push_0 {Γ : Gm} {Ret : Option Value → Wd → Prop} {p0 p1 : Nat} {w : Wd} {Q : Nat → Wd → Prop} (c2 : SpR Γ m_X4_rowAt [vR p0, vI (wI w p0 1)] w Q) (kq : ∀ (z : Nat) (u : Wd), Q z u → G Γ m_X4_push Ret 0 0 8 [some (vR p0), some (vR p1), none] [vR z] u) (h1 : sh w p0 = some (.inr 4) := by assumption) : G Γ m_X4_push Ret 0 0 0 [some (vR p0), some (vR p1), none] [] w := by
  refine G_aload_n dX4_push_0 rfl ?_
  refine G_aload_n dX4_push_1 rfl ?_
  refine G_getI dX4_push_2 fl_RX4_22 h1 rfl ?_
  exact G_VR (as := [vI (wI w p0 1)]) (st := []) n0_X4_rowAt dX4_push_5 ml_RX4_29 mc_X4_rowAt rfl ⟨by decide, ⟨Nat.le_of_ble_eq_true rfl, Nat.le_of_ble_eq_true rfl⟩, Nat.le_of_ble_eq_true rfl⟩ h1 ⟨_, _, rfl⟩ c2 (fun z u hq => kq z u hq)
theorem k_X4_push_8 {Γ : Gm} {Ret : Option Value → Wd → Prop} {p0 p1 t0 : Nat} {o2 : Option Value} {w : Wd} {Q : Wd → Prop} (c2 : SpV Γ m_X0_copyFrom [vR t0, vR p1] w Q) (kq : ∀ u : Wd, Q u → G Γ m_X4_push Ret 0 0 19 [some (vR p0), some (vR p1), some (vR t0)] [] u) (h1 : sh w t0 = some (.inr 0) := by assumption) : G Γ m_X4_push Ret 0 0 8 [some (vR p0), some (vR p1), o2] [vR t0] w := by
  refine G_astore_n dX4_push_8 (by decide) rfl ?_
  refine G_aload_n dX4_push_9 rfl ?_
  refine G_ifnonnull dX4_push_10 (tgt := 14) (by decide) ?_
  refine G_aload_n dX4_push_14 rfl ?_
  refine G_aload_n dX4_push_15 rfl ?_
  exact G_VV (as := [vR p1]) (st := []) n0_X0_copyFrom dX4_push_16 ml_RX4_33 mc_X0_copyFrom rfl ⟨by decide, ⟨Nat.le_of_ble_eq_true rfl, Nat.le_of_ble_eq_true rfl⟩, Nat.le_of_ble_eq_true rfl⟩ h1 ⟨_, _, rfl⟩ c2 (fun u hq => kq u hq)
theorem k_X4_push_19 {Γ : Gm} {Ret : Option Value → Wd → Prop} {p0 q1 n2 : Nat} {o1 o2 : Option Value} {w : Wd} (kt : (n2 : Int) ≤ ((wI w p0 1) + 1) → G Γ m_X4_push Ret 0 0 43 [some (vR p0), o1, o2] [vR p0] w) (kf : ¬ ((n2 : Int) ≤ ((wI w p0 1) + 1)) → G Γ m_X4_push Ret 0 0 34 [some (vR p0), o1, o2] [vR p0] w) (h1 : sh w p0 = some (.inr 4) := by assumption) (h2 : wR w p0 0 = vR q1 := by assumption) (h3 : sh w q1 = some (.inl (2, n2)) := by assumption) (h4 : sm ((wI w p0 1) + 1) := by omega) (h5 : sm (n2 : Int) := by omega) : G Γ m_X4_push Ret 0 0 19 [some (vR p0), o1, o2] [] w := by
  refine G_aload_n dX4_push_19 rfl ?_
  refine G_aload_n dX4_push_20 rfl ?_
  refine G_getI dX4_push_21 fl_RX4_22 h1 rfl ?_
  refine G_const dX4_push_24 ?_
  refine G_iadd dX4_push_25 ?_
  refine G_aload_n dX4_push_26 rfl ?_
  refine G_getR dX4_push_27 fl_RX4_15 h1 rfl h2 ?_
  refine G_alen dX4_push_30 h3 (by decide) ?_
  exact G_icmp_ge dX4_push_31 (by decide) h4 h5 kt kf
theorem k_X4_push_43 {Γ : Gm} {Ret : Option Value → Wd → Prop} {p0 t0 q1 n2 : Nat} {o1 o2 : Option Value} {w : Wd} (kr : Ret none (stI (stI w t0 1 0) p0 2 (min ((wI w p0 2) + 1) (n2 : Int)))) (h1 : sh w t0 = some (.inr 4) := by assumption) (h2 : sh w p0 = some (.inr 4) := by assumption) (h3 : wR w p0 0 = vR q1 := by assumption) (h4 : sh w q1 = some (.inl (2, n2)) := by assumption) (h5 : sm ((wI w p0 2) + 1) := by omega) (h6 : sm (n2 : Int) := by omega) : G Γ m_X4_push Ret 0 0 43 [some (vR p0), o1, o2] [vR t0] w := by
  refine G_const dX4_push_43 ?_
  refine G_putI dX4_push_44 fl_RX4_22 h1 rfl ?_
  refine G_aload_n dX4_push_47 rfl ?_
  refine G_aload_n dX4_push_48 rfl ?_
  refine G_getI dX4_push_49 fl_RX4_26 h2 rfl ?_
  rw [wI_skip (by decide)]
  refine G_const dX4_push_52 ?_
  refine G_iadd dX4_push_53 ?_
  refine G_aload_n dX4_push_54 rfl ?_
  refine G_getR dX4_push_55 fl_RX4_15 h2 rfl h3 ?_
  refine G_alen dX4_push_58 h4 (by decide) ?_
  refine G_mmin dX4_push_59 tb_508 tb_509 tb_44 tb_510 h5 h6 ⟨Nat.le_of_ble_eq_true rfl, Nat.le_of_ble_eq_true rfl⟩ ⟨Nat.le_of_ble_eq_true rfl, Nat.le_of_ble_eq_true rfl⟩ ?_
  refine G_putI dX4_push_62 fl_RX4_26 h2 rfl ?_
  exact G_retv dX4_push_65 trivial ⟨rfl, Nat.le_of_ble_eq_true rfl⟩ kr
theorem k_X4_push_34 {Γ : Gm} {Ret : Option Value → Wd → Prop} {p0 t0 q1 n2 : Nat} {o1 o2 : Option Value} {w : Wd} (kr : Ret none (stI (stI w t0 1 ((wI w p0 1) + 1)) p0 2 (min ((wI w p0 2) + 1) (n2 : Int)))) (h1 : sh w p0 = some (.inr 4) := by assumption) (h2 : sh w t0 = some (.inr 4) := by assumption) (h3 : wR w p0 0 = vR q1 := by assumption) (h4 : sh w q1 = some (.inl (2, n2)) := by assumption) (h5 : sm ((wI w p0 2) + 1) := by omega) (h6 : sm (n2 : Int) := by omega) : G Γ m_X4_push Ret 0 0 34 [some (vR p0), o1, o2] [vR t0] w := by
  refine G_aload_n dX4_push_34 rfl ?_
  refine G_getI dX4_push_35 fl_RX4_22 h1 rfl ?_
  refine G_const dX4_push_38 ?_
  refine G_iadd dX4_push_39 ?_
  refine G_goto dX4_push_40 (tgt := 44) (by decide) ?_
  refine G_putI dX4_push_44 fl_RX4_22 h2 rfl ?_
  refine G_aload_n dX4_push_47 rfl ?_
  refine G_aload_n dX4_push_48 rfl ?_
  refine G_getI dX4_push_49 fl_RX4_26 h1 rfl ?_
  rw [wI_skip (by decide)]
  refine G_const dX4_push_52 ?_
  refine G_iadd dX4_push_53 ?_
  refine G_aload_n dX4_push_54 rfl ?_
  refine G_getR dX4_push_55 fl_RX4_15 h1 rfl h3 ?_
  refine G_alen dX4_push_58 h4 (by decide) ?_
  refine G_mmin dX4_push_59 tb_508 tb_509 tb_44 tb_510 h5 h6 ⟨Nat.le_of_ble_eq_true rfl, Nat.le_of_ble_eq_true rfl⟩ ⟨Nat.le_of_ble_eq_true rfl, Nat.le_of_ble_eq_true rfl⟩ ?_
  refine G_putI dX4_push_62 fl_RX4_26 h1 rfl ?_
  exact G_retv dX4_push_65 trivial ⟨rfl, Nat.le_of_ble_eq_true rfl⟩ kr
theorem k_X4_pop_0 {Γ : Gm} {Ret : Option Value → Wd → Prop} {p0 p1 : Nat} {w : Wd} (kt : (wI w p0 1) ≤ 0 → G Γ m_X4_pop Ret 0 0 16 [some (vR p0), some (vR p1), none, none] [] w) (kf : ¬ ((wI w p0 1) ≤ 0) → G Γ m_X4_pop Ret 0 0 7 [some (vR p0), some (vR p1), none, none] [] w) (h1 : sh w p0 = some (.inr 4) := by assumption) (h2 : sm (wI w p0 1) := by omega) : G Γ m_X4_pop Ret 0 0 0 [some (vR p0), some (vR p1), none, none] [] w := by
  refine G_aload_n dX4_pop_0 rfl ?_
  refine G_getI dX4_pop_1 fl_RX4_22 h1 rfl ?_
  exact G_if_le dX4_pop_4 (by decide) h2 kt kf
theorem k_X4_pop_16 {Γ : Gm} {Ret : Option Value → Wd → Prop} {p0 p1 q1 n2 : Nat} {o2 o3 : Option Value} {w : Wd} {Q : Nat → Wd → Prop} (c4 : SpR Γ m_X4_rowAt [vR p0, vI ((n2 : Int) - 1)] w Q) (kq : ∀ (z : Nat) (u : Wd), Q z u → G Γ m_X4_pop Ret 0 0 29 [some (vR p0), some (vR p1), some (vI ((n2 : Int) - 1)), o3] [vR z] u) (h1 : sh w p0 = some (.inr 4) := by assumption) (h2 : wR w p0 0 = vR q1 := by assumption) (h3 : sh w q1 = some (.inl (2, n2)) := by assumption) : G Γ m_X4_pop Ret 0 0 16 [some (vR p0), some (vR p1), o2, o3] [] w := by
  refine G_aload_n dX4_pop_16 rfl ?_
  refine G_getR dX4_pop_17 fl_RX4_15 h1 rfl h2 ?_
  refine G_alen dX4_pop_20 h3 (by decide) ?_
  refine G_const dX4_pop_21 ?_
  refine G_isub dX4_pop_22 ?_
  refine G_istore_n dX4_pop_23 (by decide) rfl ?_
  refine G_aload_n dX4_pop_24 rfl ?_
  refine G_iload_n dX4_pop_25 rfl ?_
  exact G_VR (as := [vI ((n2 : Int) - 1)]) (st := []) n0_X4_rowAt dX4_pop_26 ml_RX4_29 mc_X4_rowAt rfl ⟨by decide, ⟨Nat.le_of_ble_eq_true rfl, Nat.le_of_ble_eq_true rfl⟩, Nat.le_of_ble_eq_true rfl⟩ h1 ⟨_, _, rfl⟩ c4 (fun z u hq => kq z u hq)
theorem k_X4_pop_7 {Γ : Gm} {Ret : Option Value → Wd → Prop} {p0 p1 : Nat} {o2 o3 : Option Value} {w : Wd} {Q : Nat → Wd → Prop} (c2 : SpR Γ m_X4_rowAt [vR p0, vI ((wI w p0 1) - 1)] w Q) (kq : ∀ (z : Nat) (u : Wd), Q z u → G Γ m_X4_pop Ret 0 0 29 [some (vR p0), some (vR p1), some (vI ((wI w p0 1) - 1)), o3] [vR z] u) (h1 : sh w p0 = some (.inr 4) := by assumption) : G Γ m_X4_pop Ret 0 0 7 [some (vR p0), some (vR p1), o2, o3] [] w := by
  refine G_aload_n dX4_pop_7 rfl ?_
  refine G_getI dX4_pop_8 fl_RX4_22 h1 rfl ?_
  refine G_const dX4_pop_11 ?_
  refine G_isub dX4_pop_12 ?_
  refine G_goto dX4_pop_13 (tgt := 23) (by decide) ?_
  refine G_istore_n dX4_pop_23 (by decide) rfl ?_
  refine G_aload_n dX4_pop_24 rfl ?_
  refine G_iload_n dX4_pop_25 rfl ?_
  exact G_VR (as := [vI ((wI w p0 1) - 1)]) (st := []) n0_X4_rowAt dX4_pop_26 ml_RX4_29 mc_X4_rowAt rfl ⟨by decide, ⟨Nat.le_of_ble_eq_true rfl, Nat.le_of_ble_eq_true rfl⟩, Nat.le_of_ble_eq_true rfl⟩ h1 ⟨_, _, rfl⟩ c2 (fun z u hq => kq z u hq)
theorem k_X4_pop_29 {Γ : Gm} {Ret : Option Value → Wd → Prop} {a2 : Int} {p0 p1 t0 : Nat} {o3 : Option Value} {w : Wd} (kt : 0 < (wI w p0 2) → G Γ m_X4_pop Ret 0 0 43 [some (vR p0), some (vR p1), some (vI a2), some (vR t0)] [] w) (kf : ¬ (0 < (wI w p0 2)) → G Γ m_X4_pop Ret 0 0 41 [some (vR p0), some (vR p1), some (vI a2), some (vR t0)] [] w) (h1 : sh w p0 = some (.inr 4) := by assumption) (h2 : sm (wI w p0 2) := by omega) : G Γ m_X4_pop Ret 0 0 29 [some (vR p0), some (vR p1), some (vI a2), o3] [vR t0] w := by
  refine G_astore_n dX4_pop_29 (by decide) rfl ?_
  refine G_aload_n dX4_pop_30 rfl ?_
  refine G_ifnull dX4_pop_31 ?_
  refine G_aload_n dX4_pop_34 rfl ?_
  refine G_getI dX4_pop_35 fl_RX4_26 h1 rfl ?_
  exact G_if_gt dX4_pop_38 (by decide) h2 kt kf
theorem k_X4_pop_43 {Γ : Gm} {Ret : Option Value → Wd → Prop} {a2 : Int} {p0 p1 p3 : Nat} {w : Wd} {Q : Wd → Prop} (c2 : SpV Γ m_X0_copyFrom [vR p1, vR p3] w Q) (kq : ∀ u : Wd, Q u → G Γ m_X4_pop Ret 0 0 48 [some (vR p0), some (vR p1), some (vI a2), some (vR p3)] [] u) (h1 : sh w p1 = some (.inr 0) := by assumption) : G Γ m_X4_pop Ret 0 0 43 [some (vR p0), some (vR p1), some (vI a2), some (vR p3)] [] w := by
  refine G_aload_n dX4_pop_43 rfl ?_
  refine G_aload_n dX4_pop_44 rfl ?_
  exact G_VV (as := [vR p3]) (st := []) n0_X0_copyFrom dX4_pop_45 ml_RX4_33 mc_X0_copyFrom rfl ⟨by decide, ⟨Nat.le_of_ble_eq_true rfl, Nat.le_of_ble_eq_true rfl⟩, Nat.le_of_ble_eq_true rfl⟩ h1 ⟨_, _, rfl⟩ c2 (fun u hq => kq u hq)
theorem k_X4_pop_41 {Γ : Gm} {Ret : Option Value → Wd → Prop} {o0 o1 o2 o3 : Option Value} {w : Wd} (kr : Ret (some (vI 0)) w) : G Γ m_X4_pop Ret 0 0 41 [o0, o1, o2, o3] [] w := by
  refine G_const dX4_pop_41 ?_
  exact G_reti dX4_pop_42 (Or.inl rfl) ⟨rfl, Nat.le_of_ble_eq_true rfl⟩ kr
theorem k_X4_pop_48 {Γ : Gm} {Ret : Option Value → Wd → Prop} {a2 : Int} {p0 : Nat} {o1 o3 : Option Value} {w : Wd} (kr : Ret (some (vI 1)) (stI (stI w p0 1 a2) p0 2 ((wI w p0 2) - 1))) (h1 : sh w p0 = some (.inr 4) := by assumption) : G Γ m_X4_pop Ret 0 0 48 [some (vR p0), o1, some (vI a2), o3] [] w := by
  refine G_aload_n dX4_pop_48 rfl ?_
  refine G_iload_n dX4_pop_49 rfl ?_
  refine G_putI dX4_pop_50 fl_RX4_22 h1 rfl ?_
  refine G_aload_n dX4_pop_53 rfl ?_
  refine G_dup dX4_pop_54 rfl ?_
  refine G_getI dX4_pop_55 fl_RX4_26 h1 rfl ?_
  rw [wI_skip (by decide)]
  refine G_const dX4_pop_58 ?_
  refine G_isub dX4_pop_59 ?_
  refine G_putI dX4_pop_60 fl_RX4_26 h1 rfl ?_
  refine G_const dX4_pop_63 ?_
  exact G_reti dX4_pop_64 (Or.inr rfl) ⟨rfl, Nat.le_of_ble_eq_true rfl⟩ kr
theorem k_X5_init_0 {Γ : Gm} {Ret : Option Value → Wd → Prop} {kc ks : Nat} {p0 : Nat} {w : Wd} {Q : Wd → Prop} (c10 : SpV Γ m_X5_clear [vR p0] (stR (nwW (stR (nwW w) p0 0 (vR w.1))) p0 1 (vR (stR (nwW w) p0 0 (vR w.1)).1)) Q) (kq : ∀ u : Wd, Q u → G Γ m_X5_init Ret ((kc + 1) + 1) ((ks + 6) + 6) 24 [some (vR p0)] [] u) (h1 : ∃ x, sh w p0 = some x := by exact ⟨_, by assumption⟩) (h2 : shp[w.1]? = some (.inl (0, 6)) := by assumption) (h3 : kc + 1 ≤ m_X5_init.2.2.2.2.cells ∧ ks + 6 ≤ m_X5_init.2.2.2.2.slots := by decide) (h4 : sh (nwW w) p0 = some (.inr 5) := by assumption) (h5 : shp[(stR (nwW w) p0 0 (vR w.1)).1]? = some (.inl (0, 6)) := by assumption) (h6 : (kc + 1) + 1 ≤ m_X5_init.2.2.2.2.cells ∧ (ks + 6) + 6 ≤ m_X5_init.2.2.2.2.slots := by decide) (h7 : sh (nwW (stR (nwW w) p0 0 (vR w.1))) p0 = some (.inr 5) := by assumption) (h8 : ((kc + 1) + 1) + m_X5_clear.2.2.2.2.cells ≤ m_X5_init.2.2.2.2.cells ∧ ((ks + 6) + 6) + m_X5_clear.2.2.2.2.slots ≤ m_X5_init.2.2.2.2.slots := by decide) (h9 : sh (stR (nwW (stR (nwW w) p0 0 (vR w.1))) p0 1 (vR (stR (nwW w) p0 0 (vR w.1)).1)) p0 = some (.inr 5) := by assumption) : G Γ m_X5_init Ret kc ks 0 [some (vR p0)] [] w := by
  refine G_aload_n dX5_init_0 rfl ?_
  refine G_obj dX5_init_1 tb_200 tb_60 tb_61 h1 (by decide) ?_
  refine G_aload_n dX5_init_4 rfl ?_
  refine G_bipush dX5_init_5 (by decide +kernel) ?_
  refine G_newarr (n := 6) (t := 0) (ty := .int) dX5_init_7 (by decide) rfl tb_125 h2 (by decide) h3 ?_
  refine G_putR (ty := (.array .int)) dX5_init_9 fl_RX5_11 h4 rfl (fun _ => ⟨rfl, _, _, rfl⟩) (by decide +kernel) (fun _ => rfl) (fun _ => rfl) ?_
  refine G_aload_n dX5_init_12 rfl ?_
  refine G_bipush dX5_init_13 (by decide +kernel) ?_
  refine G_newarr (n := 6) (t := 0) (ty := .int) dX5_init_15 (by decide) rfl tb_125 h5 (by decide) h6 ?_
  refine G_putR (ty := (.array .int)) dX5_init_17 fl_RX5_15 h7 rfl (fun _ => ⟨rfl, _, _, rfl⟩) (by decide +kernel) (fun _ => rfl) (fun _ => rfl) ?_
  refine G_aload_n dX5_init_20 rfl ?_
  exact G_VV (as := []) (st := []) n0_X5_clear dX5_init_21 ml_RX5_18 mc_X5_clear rfl ⟨by decide, h8, Nat.le_of_ble_eq_true rfl⟩ h9 ⟨_, _, rfl⟩ c10 (fun u hq => kq u hq)
theorem k_X5_init_24 {Γ : Gm} {Ret : Option Value → Wd → Prop} {kc ks : Nat} {o0 : Option Value} {w : Wd} (kr : Ret none w) (h1 : kc = m_X5_init.2.2.2.2.cells ∧ ks ≤ m_X5_init.2.2.2.2.slots := by decide) : G Γ m_X5_init Ret kc ks 24 [o0] [] w := by
  exact G_retv dX5_init_24 trivial h1 kr
theorem k_X5_clear_0 {Γ : Gm} {Ret : Option Value → Wd → Prop} {p0 : Nat} {w : Wd} (kr : Ret none (stI w p0 2 0)) (h1 : sh w p0 = some (.inr 5) := by assumption) : G Γ m_X5_clear Ret 0 0 0 [some (vR p0)] [] w := by
  refine G_aload_n dX5_clear_0 rfl ?_
  refine G_const dX5_clear_1 ?_
  refine G_putI dX5_clear_2 fl_RX5_21 h1 rfl ?_
  exact G_retv dX5_clear_5 trivial ⟨rfl, Nat.le_of_ble_eq_true rfl⟩ kr
theorem k_X5_add_0 {Γ : Gm} {Ret : Option Value → Wd → Prop} {a1 a2 : Int} {p0 : Nat} {w : Wd} (kt : (wI w p0 2) < 6 → G Γ m_X5_add Ret 0 0 11 [some (vR p0), some (vI a1), some (vI a2)] [] w) (kf : ¬ ((wI w p0 2) < 6) → G Γ m_X5_add Ret 0 0 9 [some (vR p0), some (vI a1), some (vI a2)] [] w) (h1 : sh w p0 = some (.inr 5) := by assumption) (h2 : sm (wI w p0 2) := by omega) : G Γ m_X5_add Ret 0 0 0 [some (vR p0), some (vI a1), some (vI a2)] [] w := by
  refine G_aload_n dX5_add_0 rfl ?_
  refine G_getI dX5_add_1 fl_RX5_21 h1 rfl ?_
  refine G_bipush dX5_add_4 (by decide +kernel) ?_
  exact G_icmp_lt dX5_add_6 (by decide) h2 (by decide) kt kf
theorem k_X5_add_11 {Γ : Gm} {Ret : Option Value → Wd → Prop} {a1 a2 : Int} {p0 q1 : Nat} {w : Wd} {Q : Wd → Prop} (c3 : SpV Γ m_X6_put [vR q1, vI (wI w p0 2), vI a1] w Q) (kq : ∀ u : Wd, Q u → G Γ m_X5_add Ret 0 0 23 [some (vR p0), some (vI a1), some (vI a2)] [] u) (h1 : sh w p0 = some (.inr 5) := by assumption) (h2 : wR w p0 0 = vR q1 := by assumption) : G Γ m_X5_add Ret 0 0 11 [some (vR p0), some (vI a1), some (vI a2)] [] w := by
  refine G_aload_n dX5_add_11 rfl ?_
  refine G_getR dX5_add_12 fl_RX5_11 h1 rfl h2 ?_
  refine G_aload_n dX5_add_15 rfl ?_
  refine G_getI dX5_add_16 fl_RX5_21 h1 rfl ?_
  refine G_iload_n dX5_add_19 rfl ?_
  exact G_SV (as := [vR q1, vI (wI w p0 2), vI a1]) (st := []) n0_X6_put dX5_add_20 ml_RX5_25 mc_X6_put rfl ⟨by decide, ⟨Nat.le_of_ble_eq_true rfl, Nat.le_of_ble_eq_true rfl⟩, Nat.le_of_ble_eq_true rfl⟩ c3 (fun u hq => kq u hq)
theorem k_X5_add_9 {Γ : Gm} {Ret : Option Value → Wd → Prop} {o0 o1 o2 : Option Value} {w : Wd} (kr : Ret (some (vI 0)) w) : G Γ m_X5_add Ret 0 0 9 [o0, o1, o2] [] w := by
  refine G_const dX5_add_9 ?_
  exact G_reti dX5_add_10 (Or.inl rfl) ⟨rfl, Nat.le_of_ble_eq_true rfl⟩ kr
theorem k_X5_add_23 {Γ : Gm} {Ret : Option Value → Wd → Prop} {a2 : Int} {p0 q1 : Nat} {o1 : Option Value} {w : Wd} {Q : Wd → Prop} (c3 : SpV Γ m_X6_put [vR q1, vI (wI w p0 2), vI a2] w Q) (kq : ∀ u : Wd, Q u → G Γ m_X5_add Ret 0 0 35 [some (vR p0), o1, some (vI a2)] [] u) (h1 : sh w p0 = some (.inr 5) := by assumption) (h2 : wR w p0 1 = vR q1 := by assumption) : G Γ m_X5_add Ret 0 0 23 [some (vR p0), o1, some (vI a2)] [] w := by
  refine G_aload_n dX5_add_23 rfl ?_
  refine G_getR dX5_add_24 fl_RX5_15 h1 rfl h2 ?_
  refine G_aload_n dX5_add_27 rfl ?_
  refine G_getI dX5_add_28 fl_RX5_21 h1 rfl ?_
  refine G_iload_n dX5_add_31 rfl ?_
  exact G_SV (as := [vR q1, vI (wI w p0 2), vI a2]) (st := []) n0_X6_put dX5_add_32 ml_RX5_25 mc_X6_put rfl ⟨by decide, ⟨Nat.le_of_ble_eq_true rfl, Nat.le_of_ble_eq_true rfl⟩, Nat.le_of_ble_eq_true rfl⟩ c3 (fun u hq => kq u hq)
theorem k_X5_add_35 {Γ : Gm} {Ret : Option Value → Wd → Prop} {p0 : Nat} {o1 o2 : Option Value} {w : Wd} (kr : Ret (some (vI 1)) (stI w p0 2 ((wI w p0 2) + 1))) (h1 : sh w p0 = some (.inr 5) := by assumption) : G Γ m_X5_add Ret 0 0 35 [some (vR p0), o1, o2] [] w := by
  refine G_aload_n dX5_add_35 rfl ?_
  refine G_dup dX5_add_36 rfl ?_
  refine G_getI dX5_add_37 fl_RX5_21 h1 rfl ?_
  refine G_const dX5_add_40 ?_
  refine G_iadd dX5_add_41 ?_
  refine G_putI dX5_add_42 fl_RX5_21 h1 rfl ?_
  refine G_const dX5_add_45 ?_
  exact G_reti dX5_add_46 (Or.inr rfl) ⟨rfl, Nat.le_of_ble_eq_true rfl⟩ kr
theorem k_X5_kindsFor_0 {Γ : Gm} {Ret : Option Value → Wd → Prop} {a1 : Int} {p0 : Nat} {w : Wd} (km : G Γ m_X5_kindsFor Ret 0 0 4 [some (vR p0), some (vI a1), some (vI 0), some (vI 0)] [] w) : G Γ m_X5_kindsFor Ret 0 0 0 [some (vR p0), some (vI a1), none, none] [] w := by
  refine G_const dX5_kindsFor_0 ?_
  refine G_istore_n dX5_kindsFor_1 (by decide) rfl ?_
  refine G_const dX5_kindsFor_2 ?_
  refine G_istore_n dX5_kindsFor_3 (by decide) rfl ?_
  exact km
theorem k_X5_kindsFor_4 {Γ : Gm} {Ret : Option Value → Wd → Prop} {a1 a2 a3 : Int} {p0 : Nat} {w : Wd} (kt : 4 ≤ a3 → G Γ m_X5_kindsFor Ret 0 0 30 [some (vR p0), some (vI a1), some (vI a2), some (vI a3)] [] w) (kf : ¬ (4 ≤ a3) → G Γ m_X5_kindsFor Ret 0 0 9 [some (vR p0), some (vI a1), some (vI a2), some (vI a3)] [] w) (h1 : sm a3 := by omega) : G Γ m_X5_kindsFor Ret 0 0 4 [some (vR p0), some (vI a1), some (vI a2), some (vI a3)] [] w := by
  refine G_iload_n dX5_kindsFor_4 rfl ?_
  refine G_const dX5_kindsFor_5 ?_
  exact G_icmp_ge dX5_kindsFor_6 (by decide) h1 (by decide) kt kf
theorem k_X5_kindsFor_30 {Γ : Gm} {Ret : Option Value → Wd → Prop} {a2 : Int} {o0 o1 o3 : Option Value} {w : Wd} (kr : Ret (some (vI a2)) w) : G Γ m_X5_kindsFor Ret 0 0 30 [o0, o1, some (vI a2), o3] [] w := by
  refine G_iload_n dX5_kindsFor_30 rfl ?_
  exact G_reti dX5_kindsFor_31 trivial ⟨rfl, Nat.le_of_ble_eq_true rfl⟩ kr
theorem k_X5_kindsFor_9 {Γ : Gm} {Ret : Option Value → Wd → Prop} {a1 a2 a3 z1 : Int} {p0 : Nat} {w : Wd} (c2 : SpP Γ m_X5_explainedBy [vR p0, vI a3, vI a1] w z1) (kt : z1 = 0 → G Γ m_X5_kindsFor Ret 0 0 24 [some (vR p0), some (vI a1), some (vI a2), some (vI a3)] [] w) (kf : ¬ (z1 = 0) → G Γ m_X5_kindsFor Ret 0 0 18 [some (vR p0), some (vI a1), some (vI a2), some (vI a3)] [] w) (h1 : sh w p0 = some (.inr 5) := by assumption) (h3 : sm z1 := by omega) : G Γ m_X5_kindsFor Ret 0 0 9 [some (vR p0), some (vI a1), some (vI a2), some (vI a3)] [] w := by
  refine G_aload_n dX5_kindsFor_9 rfl ?_
  refine G_iload_n dX5_kindsFor_10 rfl ?_
  refine G_iload_n dX5_kindsFor_11 rfl ?_
  refine G_VP (as := [vI a3, vI a1]) (st := []) n0_X5_explainedBy dX5_kindsFor_12 ml_RX5_29 mc_X5_explainedBy rfl ⟨by decide, ⟨Nat.le_of_ble_eq_true rfl, Nat.le_of_ble_eq_true rfl⟩, Nat.le_of_ble_eq_true rfl⟩ h1 ⟨_, _, rfl⟩ c2 ?_
  exact G_if_eq dX5_kindsFor_15 (by decide) h3 kt kf
theorem k_X5_kindsFor_24 {Γ : Gm} {Ret : Option Value → Wd → Prop} {a1 a2 a3 : Int} {p0 : Nat} {w : Wd} (km : G Γ m_X5_kindsFor Ret 0 0 4 [some (vR p0), some (vI a1), some (vI a2), some (vI (a3 + 1))] [] w) : G Γ m_X5_kindsFor Ret 0 0 24 [some (vR p0), some (vI a1), some (vI a2), some (vI a3)] [] w := by
  refine G_iinc dX5_kindsFor_24 (by decide) rfl rfl ?_
  refine G_goto dX5_kindsFor_27 (tgt := 4) (by decide) ?_
  exact km
theorem k_X5_kindsFor_18 {Γ : Gm} {Ret : Option Value → Wd → Prop} {a1 a2 a3 : Int} {p0 : Nat} {w : Wd} (km : G Γ m_X5_kindsFor Ret 0 0 4 [some (vR p0), some (vI a1), some (vI (zor a2 (zshl 1 a3))), some (vI (a3 + 1))] [] w) : G Γ m_X5_kindsFor Ret 0 0 18 [some (vR p0), some (vI a1), some (vI a2), some (vI a3)] [] w := by
  refine G_iload_n dX5_kindsFor_18 rfl ?_
  refine G_const dX5_kindsFor_19 ?_
  refine G_iload_n dX5_kindsFor_20 rfl ?_
  refine G_ishl dX5_kindsFor_21 ?_
  refine G_ior dX5_kindsFor_22 ?_
  refine G_istore_n dX5_kindsFor_23 (by decide) rfl ?_
  refine G_iinc dX5_kindsFor_24 (by decide) rfl rfl ?_
  refine G_goto dX5_kindsFor_27 (tgt := 4) (by decide) ?_
  exact km
theorem k_X5_givesFor_0 {Γ : Gm} {Ret : Option Value → Wd → Prop} {a1 : Int} {p0 : Nat} {w : Wd} (km : G Γ m_X5_givesFor Ret 0 0 4 [some (vR p0), some (vI a1), some (vI 0), some (vI 1)] [] w) : G Γ m_X5_givesFor Ret 0 0 0 [some (vR p0), some (vI a1), none, none] [] w := by
  refine G_const dX5_givesFor_0 ?_
  refine G_istore_n dX5_givesFor_1 (by decide) rfl ?_
  refine G_const dX5_givesFor_2 ?_
  refine G_istore_n dX5_givesFor_3 (by decide) rfl ?_
  exact km
theorem k_X5_givesFor_4 {Γ : Gm} {Ret : Option Value → Wd → Prop} {a1 a2 a3 : Int} {p0 : Nat} {w : Wd} (kt : 9 < a3 → G Γ m_X5_givesFor Ret 0 0 31 [some (vR p0), some (vI a1), some (vI a2), some (vI a3)] [] w) (kf : ¬ (9 < a3) → G Γ m_X5_givesFor Ret 0 0 10 [some (vR p0), some (vI a1), some (vI a2), some (vI a3)] [] w) (h1 : sm a3 := by omega) : G Γ m_X5_givesFor Ret 0 0 4 [some (vR p0), some (vI a1), some (vI a2), some (vI a3)] [] w := by
  refine G_iload_n dX5_givesFor_4 rfl ?_
  refine G_bipush dX5_givesFor_5 (by decide +kernel) ?_
  exact G_icmp_gt dX5_givesFor_7 (by decide) h1 (by decide) kt kf
theorem k_X5_givesFor_31 {Γ : Gm} {Ret : Option Value → Wd → Prop} {a2 : Int} {o0 o1 o3 : Option Value} {w : Wd} (kr : Ret (some (vI a2)) w) : G Γ m_X5_givesFor Ret 0 0 31 [o0, o1, some (vI a2), o3] [] w := by
  refine G_iload_n dX5_givesFor_31 rfl ?_
  exact G_reti dX5_givesFor_32 trivial ⟨rfl, Nat.le_of_ble_eq_true rfl⟩ kr
theorem k_X5_givesFor_10 {Γ : Gm} {Ret : Option Value → Wd → Prop} {a1 a2 a3 z1 : Int} {p0 : Nat} {w : Wd} (c2 : SpP Γ m_X5_explainedBy [vR p0, vI a1, vI a3] w z1) (kt : z1 = 0 → G Γ m_X5_givesFor Ret 0 0 25 [some (vR p0), some (vI a1), some (vI a2), some (vI a3)] [] w) (kf : ¬ (z1 = 0) → G Γ m_X5_givesFor Ret 0 0 19 [some (vR p0), some (vI a1), some (vI a2), some (vI a3)] [] w) (h1 : sh w p0 = some (.inr 5) := by assumption) (h3 : sm z1 := by omega) : G Γ m_X5_givesFor Ret 0 0 10 [some (vR p0), some (vI a1), some (vI a2), some (vI a3)] [] w := by
  refine G_aload_n dX5_givesFor_10 rfl ?_
  refine G_iload_n dX5_givesFor_11 rfl ?_
  refine G_iload_n dX5_givesFor_12 rfl ?_
  refine G_VP (as := [vI a1, vI a3]) (st := []) n0_X5_explainedBy dX5_givesFor_13 ml_RX5_29 mc_X5_explainedBy rfl ⟨by decide, ⟨Nat.le_of_ble_eq_true rfl, Nat.le_of_ble_eq_true rfl⟩, Nat.le_of_ble_eq_true rfl⟩ h1 ⟨_, _, rfl⟩ c2 ?_
  exact G_if_eq dX5_givesFor_16 (by decide) h3 kt kf
theorem k_X5_givesFor_25 {Γ : Gm} {Ret : Option Value → Wd → Prop} {a1 a2 a3 : Int} {p0 : Nat} {w : Wd} (km : G Γ m_X5_givesFor Ret 0 0 4 [some (vR p0), some (vI a1), some (vI a2), some (vI (a3 + 1))] [] w) : G Γ m_X5_givesFor Ret 0 0 25 [some (vR p0), some (vI a1), some (vI a2), some (vI a3)] [] w := by
  refine G_iinc dX5_givesFor_25 (by decide) rfl rfl ?_
  refine G_goto dX5_givesFor_28 (tgt := 4) (by decide) ?_
  exact km
theorem k_X5_givesFor_19 {Γ : Gm} {Ret : Option Value → Wd → Prop} {a1 a2 a3 : Int} {p0 : Nat} {w : Wd} (km : G Γ m_X5_givesFor Ret 0 0 4 [some (vR p0), some (vI a1), some (vI (zor a2 (zshl 1 a3))), some (vI (a3 + 1))] [] w) : G Γ m_X5_givesFor Ret 0 0 19 [some (vR p0), some (vI a1), some (vI a2), some (vI a3)] [] w := by
  refine G_iload_n dX5_givesFor_19 rfl ?_
  refine G_const dX5_givesFor_20 ?_
  refine G_iload_n dX5_givesFor_21 rfl ?_
  refine G_ishl dX5_givesFor_22 ?_
  refine G_ior dX5_givesFor_23 ?_
  refine G_istore_n dX5_givesFor_24 (by decide) rfl ?_
  refine G_iinc dX5_givesFor_25 (by decide) rfl rfl ?_
  refine G_goto dX5_givesFor_28 (tgt := 4) (by decide) ?_
  exact km
theorem k_X5_explainedBy_0 {Γ : Gm} {Ret : Option Value → Wd → Prop} {a1 a2 z1 : Int} {p0 : Nat} {w : Wd} (c1 : SpP Γ m_X6_slackOf [vI a1, vI a2, vI 1] w z1) (km : G Γ m_X5_explainedBy Ret 0 0 12 [some (vR p0), some (vI a1), some (vI a2), some (vI (1 - z1)), some (vI 0)] [] w) : G Γ m_X5_explainedBy Ret 0 0 0 [some (vR p0), some (vI a1), some (vI a2), none, none] [] w := by
  refine G_const dX5_explainedBy_0 ?_
  refine G_iload_n dX5_explainedBy_1 rfl ?_
  refine G_iload_n dX5_explainedBy_2 rfl ?_
  refine G_const dX5_explainedBy_3 ?_
  refine G_SP (as := [vI a1, vI a2, vI 1]) (st := [vI 1]) n0_X6_slackOf dX5_explainedBy_4 ml_RX5_33 mc_X6_slackOf rfl ⟨by decide, ⟨Nat.le_of_ble_eq_true rfl, Nat.le_of_ble_eq_true rfl⟩, Nat.le_of_ble_eq_true rfl⟩ c1 ?_
  refine G_isub dX5_explainedBy_7 ?_
  refine G_istore_n dX5_explainedBy_8 (by decide) rfl ?_
  refine G_const dX5_explainedBy_9 ?_
  refine G_istore dX5_explainedBy_10 (by decide) rfl ?_
  exact km
theorem k_X5_explainedBy_12 {Γ : Gm} {Ret : Option Value → Wd → Prop} {a3 a4 : Int} {p0 : Nat} {o1 o2 : Option Value} {w : Wd} (kt : (wI w p0 2) ≤ a4 → G Γ m_X5_explainedBy Ret 0 0 56 [some (vR p0), o1, o2, some (vI a3), some (vI a4)] [] w) (kf : ¬ ((wI w p0 2) ≤ a4) → G Γ m_X5_explainedBy Ret 0 0 21 [some (vR p0), o1, o2, some (vI a3), some (vI a4)] [] w) (h1 : sh w p0 = some (.inr 5) := by assumption) (h2 : sm a4 := by omega) (h3 : sm (wI w p0 2) := by omega) : G Γ m_X5_explainedBy Ret 0 0 12 [some (vR p0), o1, o2, some (vI a3), some (vI a4)] [] w := by
  refine G_iload dX5_explainedBy_12 rfl ?_
  refine G_aload_n dX5_explainedBy_14 rfl ?_
  refine G_getI dX5_explainedBy_15 fl_RX5_21 h1 rfl ?_
  exact G_icmp_ge dX5_explainedBy_18 (by decide) h2 h3 kt kf
theorem k_X5_explainedBy_56 {Γ : Gm} {Ret : Option Value → Wd → Prop} {o0 o1 o2 o3 o4 : Option Value} {w : Wd} (kr : Ret (some (vI 1)) w) : G Γ m_X5_explainedBy Ret 0 0 56 [o0, o1, o2, o3, o4] [] w := by
  refine G_const dX5_explainedBy_56 ?_
  exact G_reti dX5_explainedBy_57 (Or.inr rfl) ⟨rfl, Nat.le_of_ble_eq_true rfl⟩ kr
theorem k_X5_explainedBy_21 {Γ : Gm} {Ret : Option Value → Wd → Prop} {a3 a4 z2 z4 : Int} {p0 q1 q3 : Nat} {o1 o2 : Option Value} {w : Wd} (c3 : SpP Γ m_X6_at [vR q1, vI a4] w z2) (c6 : SpP Γ m_X6_at [vR q3, vI a4] w z4) (kt : (max 0 (z2 + a3)) = z4 → G Γ m_X5_explainedBy Ret 0 0 50 [some (vR p0), o1, o2, some (vI a3), some (vI a4)] [] w) (kf : ¬ ((max 0 (z2 + a3)) = z4) → G Γ m_X5_explainedBy Ret 0 0 48 [some (vR p0), o1, o2, some (vI a3), some (vI a4)] [] w) (h1 : sh w p0 = some (.inr 5) := by assumption) (h2 : wR w p0 0 = vR q1 := by assumption) (h4 : sm (z2 + a3) := by omega) (h5 : wR w p0 1 = vR q3 := by assumption) (h7 : sm (max 0 (z2 + a3)) := by omega) (h8 : sm z4 := by omega) : G Γ m_X5_explainedBy Ret 0 0 21 [some (vR p0), o1, o2, some (vI a3), some (vI a4)] [] w := by
  refine G_const dX5_explainedBy_21 ?_
  refine G_aload_n dX5_explainedBy_22 rfl ?_
  refine G_getR dX5_explainedBy_23 fl_RX5_11 h1 rfl h2 ?_
  refine G_iload dX5_explainedBy_26 rfl ?_
  refine G_SP (as := [vR q1, vI a4]) (st := [vI 0]) n0_X6_at dX5_explainedBy_28 ml_RX5_37 mc_X6_at rfl ⟨by decide, ⟨Nat.le_of_ble_eq_true rfl, Nat.le_of_ble_eq_true rfl⟩, Nat.le_of_ble_eq_true rfl⟩ c3 ?_
  refine G_iload_n dX5_explainedBy_31 rfl ?_
  refine G_iadd dX5_explainedBy_32 ?_
  refine G_mmax dX5_explainedBy_33 tb_677 tb_179 tb_44 tb_180 (by decide) h4 ⟨Nat.le_of_ble_eq_true rfl, Nat.le_of_ble_eq_true rfl⟩ ⟨Nat.le_of_ble_eq_true rfl, Nat.le_of_ble_eq_true rfl⟩ ?_
  refine G_aload_n dX5_explainedBy_36 rfl ?_
  refine G_getR dX5_explainedBy_37 fl_RX5_15 h1 rfl h5 ?_
  refine G_iload dX5_explainedBy_40 rfl ?_
  refine G_SP (as := [vR q3, vI a4]) (st := [vI (max 0 (z2 + a3))]) n0_X6_at dX5_explainedBy_42 ml_RX5_37 mc_X6_at rfl ⟨by decide, ⟨Nat.le_of_ble_eq_true rfl, Nat.le_of_ble_eq_true rfl⟩, Nat.le_of_ble_eq_true rfl⟩ c6 ?_
  exact G_icmp_eq dX5_explainedBy_45 (by decide) h7 h8 kt kf
theorem k_X5_explainedBy_50 {Γ : Gm} {Ret : Option Value → Wd → Prop} {a3 a4 : Int} {p0 : Nat} {o1 o2 : Option Value} {w : Wd} (km : G Γ m_X5_explainedBy Ret 0 0 12 [some (vR p0), o1, o2, some (vI a3), some (vI (a4 + 1))] [] w) : G Γ m_X5_explainedBy Ret 0 0 50 [some (vR p0), o1, o2, some (vI a3), some (vI a4)] [] w := by
  refine G_iinc dX5_explainedBy_50 (by decide) rfl rfl ?_
  refine G_goto dX5_explainedBy_53 (tgt := 12) (by decide) ?_
  exact km
theorem k_X5_explainedBy_48 {Γ : Gm} {Ret : Option Value → Wd → Prop} {o0 o1 o2 o3 o4 : Option Value} {w : Wd} (kr : Ret (some (vI 0)) w) : G Γ m_X5_explainedBy Ret 0 0 48 [o0, o1, o2, o3, o4] [] w := by
  refine G_const dX5_explainedBy_48 ?_
  exact G_reti dX5_explainedBy_49 (Or.inl rfl) ⟨rfl, Nat.le_of_ble_eq_true rfl⟩ kr
-- skipped X4_initB 0: anewarray
