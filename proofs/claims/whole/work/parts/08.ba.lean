theorem k_X0_init_0 {Γ : Gm} {Ret : Option Value → Wd → Prop} {kc ks : Nat} {p0 : Nat} {w : Wd} {Q : Wd → Prop} (c10 : SpV Γ m_X0_clear [vR p0, vI 0] (stR (nwW (stR (nwW w) p0 0 (vR w.1))) p0 1 (vR (stR (nwW w) p0 0 (vR w.1)).1)) Q) (kq : ∀ u : Wd, Q u → G Γ m_X0_init Ret ((kc + 1) + 1) ((ks + 12) + 4) 24 [some (vR p0)] [] u) (h1 : ∃ x, sh w p0 = some x := by exact ⟨_, by assumption⟩) (h2 : shp[w.1]? = some (.inl (0, 12)) := by assumption) (h3 : kc + 1 ≤ m_X0_init.2.2.2.2.cells ∧ ks + 12 ≤ m_X0_init.2.2.2.2.slots := by decide) (h4 : sh (nwW w) p0 = some (.inr 0) := by assumption) (h5 : shp[(stR (nwW w) p0 0 (vR w.1)).1]? = some (.inl (0, 4)) := by assumption) (h6 : (kc + 1) + 1 ≤ m_X0_init.2.2.2.2.cells ∧ (ks + 12) + 4 ≤ m_X0_init.2.2.2.2.slots := by decide) (h7 : sh (nwW (stR (nwW w) p0 0 (vR w.1))) p0 = some (.inr 0) := by assumption) (h8 : ((kc + 1) + 1) + m_X0_clear.2.2.2.2.cells ≤ m_X0_init.2.2.2.2.cells ∧ ((ks + 12) + 4) + m_X0_clear.2.2.2.2.slots ≤ m_X0_init.2.2.2.2.slots := by decide) (h9 : sh (stR (nwW (stR (nwW w) p0 0 (vR w.1))) p0 1 (vR (stR (nwW w) p0 0 (vR w.1)).1)) p0 = some (.inr 0) := by assumption) : G Γ m_X0_init Ret kc ks 0 [some (vR p0)] [] w := by
  refine G_aload_n dX0_init_0 rfl ?_
  refine G_obj dX0_init_1 tb_131 tb_60 tb_61 h1 (by decide) ?_
  refine G_aload_n dX0_init_4 rfl ?_
  refine G_bipush dX0_init_5 (by decide +kernel) ?_
  refine G_newarr (n := 12) (t := 0) (ty := .int) dX0_init_7 (by decide) rfl tb_125 h2 (by decide) h3 ?_
  refine G_putR (ty := (.array .int)) dX0_init_9 fl_RX0_9 h4 rfl (fun _ => ⟨rfl, _, _, rfl⟩) (by decide +kernel) (fun _ => rfl) (fun _ => rfl) ?_
  refine G_aload_n dX0_init_12 rfl ?_
  refine G_const dX0_init_13 ?_
  refine G_newarr (n := 4) (t := 0) (ty := .int) dX0_init_14 (by decide) rfl tb_125 h5 (by decide) h6 ?_
  refine G_putR (ty := (.array .int)) dX0_init_16 fl_RX0_15 h7 rfl (fun _ => ⟨rfl, _, _, rfl⟩) (by decide +kernel) (fun _ => rfl) (fun _ => rfl) ?_
  refine G_aload_n dX0_init_19 rfl ?_
  refine G_const dX0_init_20 ?_
  exact G_VV (as := [vI 0]) (st := []) n0_X0_clear dX0_init_21 ml_RX0_18 mc_X0_clear rfl ⟨by decide, h8, Nat.le_of_ble_eq_true rfl⟩ h9 ⟨_, _, rfl⟩ c10 (fun u hq => kq u hq)
theorem k_X0_init_24 {Γ : Gm} {Ret : Option Value → Wd → Prop} {kc ks : Nat} {o0 : Option Value} {w : Wd} (kr : Ret none w) (h1 : kc = m_X0_init.2.2.2.2.cells ∧ ks ≤ m_X0_init.2.2.2.2.slots := by decide) : G Γ m_X0_init Ret kc ks 24 [o0] [] w := by
  exact G_retv dX0_init_24 trivial h1 kr
theorem k_X0_clear_0 {Γ : Gm} {Ret : Option Value → Wd → Prop} {a1 : Int} {p0 : Nat} {w : Wd} (km : G Γ m_X0_clear Ret 0 0 2 [some (vR p0), some (vI a1), some (vI 0)] [] w) : G Γ m_X0_clear Ret 0 0 0 [some (vR p0), some (vI a1), none] [] w := by
  refine G_const dX0_clear_0 ?_
  refine G_istore_n dX0_clear_1 (by decide) rfl ?_
  exact km
theorem k_X0_clear_2 {Γ : Gm} {Ret : Option Value → Wd → Prop} {a1 a2 : Int} {p0 : Nat} {w : Wd} (kt : 4 ≤ a2 → G Γ m_X0_clear Ret 0 0 22 [some (vR p0), some (vI a1), some (vI a2)] [] w) (kf : ¬ (4 ≤ a2) → G Γ m_X0_clear Ret 0 0 7 [some (vR p0), some (vI a1), some (vI a2)] [] w) (h1 : sm a2 := by omega) : G Γ m_X0_clear Ret 0 0 2 [some (vR p0), some (vI a1), some (vI a2)] [] w := by
  refine G_iload_n dX0_clear_2 rfl ?_
  refine G_const dX0_clear_3 ?_
  exact G_icmp_ge dX0_clear_4 (by decide) h1 (by decide) kt kf
theorem k_X0_clear_22 {Γ : Gm} {Ret : Option Value → Wd → Prop} {a1 : Int} {p0 : Nat} {o2 : Option Value} {w : Wd} (kr : Ret none (stI (stI (stI (stI (stI (stI w p0 2 0) p0 3 0) p0 4 a1) p0 5 0) p0 6 0) p0 7 0)) (h1 : sh w p0 = some (.inr 0) := by assumption) : G Γ m_X0_clear Ret 0 0 22 [some (vR p0), some (vI a1), o2] [] w := by
  refine G_aload_n dX0_clear_22 rfl ?_
  refine G_const dX0_clear_23 ?_
  refine G_putI dX0_clear_24 fl_RX0_26 h1 rfl ?_
  refine G_aload_n dX0_clear_27 rfl ?_
  refine G_const dX0_clear_28 ?_
  refine G_putI dX0_clear_29 fl_RX0_30 h1 rfl ?_
  refine G_aload_n dX0_clear_32 rfl ?_
  refine G_iload_n dX0_clear_33 rfl ?_
  refine G_putI dX0_clear_34 fl_RX0_33 h1 rfl ?_
  refine G_aload_n dX0_clear_37 rfl ?_
  refine G_const dX0_clear_38 ?_
  refine G_putI dX0_clear_39 fl_RX0_36 h1 rfl ?_
  refine G_aload_n dX0_clear_42 rfl ?_
  refine G_const dX0_clear_43 ?_
  refine G_putI dX0_clear_44 fl_RX0_39 h1 rfl ?_
  refine G_aload_n dX0_clear_47 rfl ?_
  refine G_const dX0_clear_48 ?_
  refine G_putI dX0_clear_49 fl_RX0_42 h1 rfl ?_
  exact G_retv dX0_clear_52 trivial ⟨rfl, Nat.le_of_ble_eq_true rfl⟩ kr
theorem k_X0_clear_7 {Γ : Gm} {Ret : Option Value → Wd → Prop} {a1 a2 : Int} {p0 q1 : Nat} {w : Wd} {Q : Wd → Prop} (c3 : SpV Γ m_X6_put [vR q1, vI a2, vI 0] w Q) (kq : ∀ u : Wd, Q u → G Γ m_X0_clear Ret 0 0 16 [some (vR p0), some (vI a1), some (vI a2)] [] u) (h1 : sh w p0 = some (.inr 0) := by assumption) (h2 : wR w p0 1 = vR q1 := by assumption) : G Γ m_X0_clear Ret 0 0 7 [some (vR p0), some (vI a1), some (vI a2)] [] w := by
  refine G_aload_n dX0_clear_7 rfl ?_
  refine G_getR dX0_clear_8 fl_RX0_15 h1 rfl h2 ?_
  refine G_iload_n dX0_clear_11 rfl ?_
  refine G_const dX0_clear_12 ?_
  exact G_SV (as := [vR q1, vI a2, vI 0]) (st := []) n0_X6_put dX0_clear_13 ml_RX0_22 mc_X6_put rfl ⟨by decide, ⟨Nat.le_of_ble_eq_true rfl, Nat.le_of_ble_eq_true rfl⟩, Nat.le_of_ble_eq_true rfl⟩ c3 (fun u hq => kq u hq)
theorem k_X0_clear_16 {Γ : Gm} {Ret : Option Value → Wd → Prop} {a1 a2 : Int} {p0 : Nat} {w : Wd} (km : G Γ m_X0_clear Ret 0 0 2 [some (vR p0), some (vI a1), some (vI (a2 + 1))] [] w) : G Γ m_X0_clear Ret 0 0 16 [some (vR p0), some (vI a1), some (vI a2)] [] w := by
  refine G_iinc dX0_clear_16 (by decide) rfl rfl ?_
  refine G_goto dX0_clear_19 (tgt := 2) (by decide) ?_
  exact km
theorem k_X0_copyFrom_0 {Γ : Gm} {Ret : Option Value → Wd → Prop} {p0 p1 q1 q2 : Nat} {w : Wd} {Q : Wd → Prop} (c5 : SpV Γ m_X6_copy [vR q1, vR q2] w Q) (kq : ∀ u : Wd, Q u → G Γ m_X0_copyFrom Ret 0 0 11 [some (vR p0), some (vR p1)] [] u) (h1 : sh w p1 = some (.inr 0) := by assumption) (h2 : wR w p1 0 = vR q1 := by assumption) (h3 : sh w p0 = some (.inr 0) := by assumption) (h4 : wR w p0 0 = vR q2 := by assumption) : G Γ m_X0_copyFrom Ret 0 0 0 [some (vR p0), some (vR p1)] [] w := by
  refine G_aload_n dX0_copyFrom_0 rfl ?_
  refine G_getR dX0_copyFrom_1 fl_RX0_9 h1 rfl h2 ?_
  refine G_aload_n dX0_copyFrom_4 rfl ?_
  refine G_getR dX0_copyFrom_5 fl_RX0_9 h3 rfl h4 ?_
  exact G_SV (as := [vR q1, vR q2]) (st := []) n0_X6_copy dX0_copyFrom_8 ml_RX0_45 mc_X6_copy rfl ⟨by decide, ⟨Nat.le_of_ble_eq_true rfl, Nat.le_of_ble_eq_true rfl⟩, Nat.le_of_ble_eq_true rfl⟩ c5 (fun u hq => kq u hq)
theorem k_X0_copyFrom_11 {Γ : Gm} {Ret : Option Value → Wd → Prop} {p0 p1 q1 q2 : Nat} {w : Wd} {Q : Wd → Prop} (c5 : SpV Γ m_X6_copy [vR q1, vR q2] w Q) (kq : ∀ u : Wd, Q u → G Γ m_X0_copyFrom Ret 0 0 22 [some (vR p0), some (vR p1)] [] u) (h1 : sh w p1 = some (.inr 0) := by assumption) (h2 : wR w p1 1 = vR q1 := by assumption) (h3 : sh w p0 = some (.inr 0) := by assumption) (h4 : wR w p0 1 = vR q2 := by assumption) : G Γ m_X0_copyFrom Ret 0 0 11 [some (vR p0), some (vR p1)] [] w := by
  refine G_aload_n dX0_copyFrom_11 rfl ?_
  refine G_getR dX0_copyFrom_12 fl_RX0_15 h1 rfl h2 ?_
  refine G_aload_n dX0_copyFrom_15 rfl ?_
  refine G_getR dX0_copyFrom_16 fl_RX0_15 h3 rfl h4 ?_
  exact G_SV (as := [vR q1, vR q2]) (st := []) n0_X6_copy dX0_copyFrom_19 ml_RX0_45 mc_X6_copy rfl ⟨by decide, ⟨Nat.le_of_ble_eq_true rfl, Nat.le_of_ble_eq_true rfl⟩, Nat.le_of_ble_eq_true rfl⟩ c5 (fun u hq => kq u hq)
theorem k_X0_copyFrom_22 {Γ : Gm} {Ret : Option Value → Wd → Prop} {p0 p1 : Nat} {w : Wd} (kr : Ret none (stI (stI (stI (stI (stI (stI w p0 2 (wI w p1 2)) p0 3 (wI w p1 3)) p0 4 (wI w p1 4)) p0 5 (wI w p1 5)) p0 6 (wI w p1 6)) p0 7 (wI w p1 7))) (h1 : sh w p1 = some (.inr 0) := by assumption) (h2 : sh w p0 = some (.inr 0) := by assumption) : G Γ m_X0_copyFrom Ret 0 0 22 [some (vR p0), some (vR p1)] [] w := by
  refine G_aload_n dX0_copyFrom_22 rfl ?_
  refine G_aload_n dX0_copyFrom_23 rfl ?_
  refine G_getI dX0_copyFrom_24 fl_RX0_26 h1 rfl ?_
  refine G_putI dX0_copyFrom_27 fl_RX0_26 h2 rfl ?_
  refine G_aload_n dX0_copyFrom_30 rfl ?_
  refine G_aload_n dX0_copyFrom_31 rfl ?_
  refine G_getI dX0_copyFrom_32 fl_RX0_30 h1 rfl ?_
  rw [wI_skip (by decide)]
  refine G_putI dX0_copyFrom_35 fl_RX0_30 h2 rfl ?_
  refine G_aload_n dX0_copyFrom_38 rfl ?_
  refine G_aload_n dX0_copyFrom_39 rfl ?_
  refine G_getI dX0_copyFrom_40 fl_RX0_33 h1 rfl ?_
  rw [wI_skip (by decide)]
  rw [wI_skip (by decide)]
  refine G_putI dX0_copyFrom_43 fl_RX0_33 h2 rfl ?_
  refine G_aload_n dX0_copyFrom_46 rfl ?_
  refine G_aload_n dX0_copyFrom_47 rfl ?_
  refine G_getI dX0_copyFrom_48 fl_RX0_36 h1 rfl ?_
  rw [wI_skip (by decide)]
  rw [wI_skip (by decide)]
  rw [wI_skip (by decide)]
  refine G_putI dX0_copyFrom_51 fl_RX0_36 h2 rfl ?_
  refine G_aload_n dX0_copyFrom_54 rfl ?_
  refine G_aload_n dX0_copyFrom_55 rfl ?_
  refine G_getI dX0_copyFrom_56 fl_RX0_39 h1 rfl ?_
  rw [wI_skip (by decide)]
  rw [wI_skip (by decide)]
  rw [wI_skip (by decide)]
  rw [wI_skip (by decide)]
  refine G_putI dX0_copyFrom_59 fl_RX0_39 h2 rfl ?_
  refine G_aload_n dX0_copyFrom_62 rfl ?_
  refine G_aload_n dX0_copyFrom_63 rfl ?_
  refine G_getI dX0_copyFrom_64 fl_RX0_42 h1 rfl ?_
  rw [wI_skip (by decide)]
  rw [wI_skip (by decide)]
  rw [wI_skip (by decide)]
  rw [wI_skip (by decide)]
  rw [wI_skip (by decide)]
  refine G_putI dX0_copyFrom_67 fl_RX0_42 h2 rfl ?_
  exact G_retv dX0_copyFrom_70 trivial ⟨rfl, Nat.le_of_ble_eq_true rfl⟩ kr
theorem k_X0_isCovered_0 {Γ : Gm} {Ret : Option Value → Wd → Prop} {p0 p1 : Nat} {w : Wd} (kt : (wI w p0 3) < (wI w p1 5) → G Γ m_X0_isCovered Ret 0 0 15 [some (vR p0), some (vR p1)] [] w) (kf : ¬ ((wI w p0 3) < (wI w p1 5)) → G Γ m_X0_isCovered Ret 0 0 11 [some (vR p0), some (vR p1)] [] w) (h1 : sh w p0 = some (.inr 0) := by assumption) (h2 : sh w p1 = some (.inr 3) := by assumption) (h3 : sm (wI w p0 3) := by omega) (h4 : sm (wI w p1 5) := by omega) : G Γ m_X0_isCovered Ret 0 0 0 [some (vR p0), some (vR p1)] [] w := by
  refine G_aload_n dX0_isCovered_0 rfl ?_
  refine G_getI dX0_isCovered_1 fl_RX0_30 h1 rfl ?_
  refine G_aload_n dX0_isCovered_4 rfl ?_
  refine G_getI dX0_isCovered_5 fl_RX0_49 h2 rfl ?_
  exact G_icmp_lt dX0_isCovered_8 (by decide) h3 h4 kt kf
theorem k_X0_isCovered_15 {Γ : Gm} {Ret : Option Value → Wd → Prop} {o0 o1 : Option Value} {w : Wd} (kr : Ret (some (vI 0)) w) : G Γ m_X0_isCovered Ret 0 0 15 [o0, o1] [] w := by
  refine G_const dX0_isCovered_15 ?_
  exact G_reti dX0_isCovered_16 (Or.inl rfl) ⟨rfl, Nat.le_of_ble_eq_true rfl⟩ kr
theorem k_X0_isCovered_11 {Γ : Gm} {Ret : Option Value → Wd → Prop} {o0 o1 : Option Value} {w : Wd} (kr : Ret (some (vI 1)) w) : G Γ m_X0_isCovered Ret 0 0 11 [o0, o1] [] w := by
  refine G_const dX0_isCovered_11 ?_
  refine G_goto dX0_isCovered_12 (tgt := 16) (by decide) ?_
  exact G_reti dX0_isCovered_16 (Or.inr rfl) ⟨rfl, Nat.le_of_ble_eq_true rfl⟩ kr
theorem k_X0_canCut_0 {Γ : Gm} {Ret : Option Value → Wd → Prop} {a2 : Int} {p0 p1 : Nat} {w : Wd} (kt : (wI w p1 7) < a2 → G Γ m_X0_canCut Ret 0 0 41 [some (vR p0), some (vR p1), some (vI a2)] [] w) (kf : ¬ ((wI w p1 7) < a2) → G Γ m_X0_canCut Ret 0 0 8 [some (vR p0), some (vR p1), some (vI a2)] [] w) (h1 : sh w p1 = some (.inr 3) := by assumption) (h2 : sm a2 := by omega) (h3 : sm (wI w p1 7) := by omega) : G Γ m_X0_canCut Ret 0 0 0 [some (vR p0), some (vR p1), some (vI a2)] [] w := by
  refine G_iload_n dX0_canCut_0 rfl ?_
  refine G_aload_n dX0_canCut_1 rfl ?_
  refine G_getI dX0_canCut_2 fl_RX0_54 h1 rfl ?_
  exact G_icmp_gt dX0_canCut_5 (by decide) h2 h3 kt kf
theorem k_X0_canCut_41 {Γ : Gm} {Ret : Option Value → Wd → Prop} {o0 o1 o2 : Option Value} {w : Wd} (kr : Ret (some (vI 0)) w) : G Γ m_X0_canCut Ret 0 0 41 [o0, o1, o2] [] w := by
  refine G_const dX0_canCut_41 ?_
  exact G_reti dX0_canCut_42 (Or.inl rfl) ⟨rfl, Nat.le_of_ble_eq_true rfl⟩ kr
theorem k_X0_canCut_8 {Γ : Gm} {Ret : Option Value → Wd → Prop} {a2 : Int} {p0 p1 : Nat} {w : Wd} (kt : ((wI w p1 5) - (wI w p0 3)) < a2 → G Γ m_X0_canCut Ret 0 0 41 [some (vR p0), some (vR p1), some (vI a2)] [] w) (kf : ¬ (((wI w p1 5) - (wI w p0 3)) < a2) → G Γ m_X0_canCut Ret 0 0 21 [some (vR p0), some (vR p1), some (vI a2)] [] w) (h1 : sh w p1 = some (.inr 3) := by assumption) (h2 : sh w p0 = some (.inr 0) := by assumption) (h3 : sm a2 := by omega) (h4 : sm ((wI w p1 5) - (wI w p0 3)) := by omega) : G Γ m_X0_canCut Ret 0 0 8 [some (vR p0), some (vR p1), some (vI a2)] [] w := by
  refine G_iload_n dX0_canCut_8 rfl ?_
  refine G_aload_n dX0_canCut_9 rfl ?_
  refine G_getI dX0_canCut_10 fl_RX0_49 h1 rfl ?_
  refine G_aload_n dX0_canCut_13 rfl ?_
  refine G_getI dX0_canCut_14 fl_RX0_30 h2 rfl ?_
  refine G_isub dX0_canCut_17 ?_
  exact G_icmp_gt dX0_canCut_18 (by decide) h3 h4 kt kf
theorem k_X0_canCut_21 {Γ : Gm} {Ret : Option Value → Wd → Prop} {a2 z1 : Int} {p0 p1 : Nat} {w : Wd} (c3 : SpP Γ m_X3_lengthFor [vR p1, vI (wI w p0 3), vI a2] w z1) (kt : (wI w p0 4) < z1 → G Γ m_X0_canCut Ret 0 0 41 [some (vR p0), some (vR p1), some (vI a2)] [] w) (kf : ¬ ((wI w p0 4) < z1) → G Γ m_X0_canCut Ret 0 0 37 [some (vR p0), some (vR p1), some (vI a2)] [] w) (h1 : sh w p0 = some (.inr 0) := by assumption) (h2 : sh w p1 = some (.inr 3) := by assumption) (h4 : sm z1 := by omega) (h5 : sm (wI w p0 4) := by omega) : G Γ m_X0_canCut Ret 0 0 21 [some (vR p0), some (vR p1), some (vI a2)] [] w := by
  refine G_aload_n dX0_canCut_21 rfl ?_
  refine G_aload_n dX0_canCut_22 rfl ?_
  refine G_getI dX0_canCut_23 fl_RX0_30 h1 rfl ?_
  refine G_iload_n dX0_canCut_26 rfl ?_
  refine G_VP (as := [vI (wI w p0 3), vI a2]) (st := []) n0_X3_lengthFor dX0_canCut_27 ml_RX0_57 mc_X3_lengthFor rfl ⟨by decide, ⟨Nat.le_of_ble_eq_true rfl, Nat.le_of_ble_eq_true rfl⟩, Nat.le_of_ble_eq_true rfl⟩ h2 ⟨_, _, rfl⟩ c3 ?_
  refine G_aload_n dX0_canCut_30 rfl ?_
  refine G_getI dX0_canCut_31 fl_RX0_33 h1 rfl ?_
  exact G_icmp_gt dX0_canCut_34 (by decide) h4 h5 kt kf
theorem k_X0_canCut_37 {Γ : Gm} {Ret : Option Value → Wd → Prop} {o0 o1 o2 : Option Value} {w : Wd} (kr : Ret (some (vI 1)) w) : G Γ m_X0_canCut Ret 0 0 37 [o0, o1, o2] [] w := by
  refine G_const dX0_canCut_37 ?_
  refine G_goto dX0_canCut_38 (tgt := 42) (by decide) ?_
  exact G_reti dX0_canCut_42 (Or.inr rfl) ⟨rfl, Nat.le_of_ble_eq_true rfl⟩ kr
theorem k_X0_cutFor_0 {Γ : Gm} {Ret : Option Value → Wd → Prop} {a2 z1 : Int} {p0 p1 q2 : Nat} {w : Wd} {Q : Wd → Prop} (c3 : SpP Γ m_X3_lengthFor [vR p1, vI (wI w p0 3), vI a2] w z1) (c5 : SpV Γ m_X6_put [vR q2, vI (wI w p0 2), vI a2] w Q) (kq : ∀ u : Wd, Q u → G Γ m_X0_cutFor Ret 0 0 22 [some (vR p0), some (vR p1), some (vI a2), some (vI z1)] [] u) (h1 : sh w p0 = some (.inr 0) := by assumption) (h2 : sh w p1 = some (.inr 3) := by assumption) (h4 : wR w p0 0 = vR q2 := by assumption) : G Γ m_X0_cutFor Ret 0 0 0 [some (vR p0), some (vR p1), some (vI a2), none] [] w := by
  refine G_aload_n dX0_cutFor_0 rfl ?_
  refine G_aload_n dX0_cutFor_1 rfl ?_
  refine G_getI dX0_cutFor_2 fl_RX0_30 h1 rfl ?_
  refine G_iload_n dX0_cutFor_5 rfl ?_
  refine G_VP (as := [vI (wI w p0 3), vI a2]) (st := []) n0_X3_lengthFor dX0_cutFor_6 ml_RX0_57 mc_X3_lengthFor rfl ⟨by decide, ⟨Nat.le_of_ble_eq_true rfl, Nat.le_of_ble_eq_true rfl⟩, Nat.le_of_ble_eq_true rfl⟩ h2 ⟨_, _, rfl⟩ c3 ?_
  refine G_istore_n dX0_cutFor_9 (by decide) rfl ?_
  refine G_aload_n dX0_cutFor_10 rfl ?_
  refine G_getR dX0_cutFor_11 fl_RX0_9 h1 rfl h4 ?_
  refine G_aload_n dX0_cutFor_14 rfl ?_
  refine G_getI dX0_cutFor_15 fl_RX0_26 h1 rfl ?_
  refine G_iload_n dX0_cutFor_18 rfl ?_
  exact G_SV (as := [vR q2, vI (wI w p0 2), vI a2]) (st := []) n0_X6_put dX0_cutFor_19 ml_RX0_22 mc_X6_put rfl ⟨by decide, ⟨Nat.le_of_ble_eq_true rfl, Nat.le_of_ble_eq_true rfl⟩, Nat.le_of_ble_eq_true rfl⟩ c5 (fun u hq => kq u hq)
theorem k_X0_cutFor_22 {Γ : Gm} {Ret : Option Value → Wd → Prop} {a2 a3 : Int} {p0 : Nat} {o1 : Option Value} {w : Wd} (kr : Ret (some (vI a3)) (stI (stI (stI w p0 2 ((wI w p0 2) + 1)) p0 3 ((wI w p0 3) + a2)) p0 4 ((wI w p0 4) - a3))) (h1 : sh w p0 = some (.inr 0) := by assumption) : G Γ m_X0_cutFor Ret 0 0 22 [some (vR p0), o1, some (vI a2), some (vI a3)] [] w := by
  refine G_aload_n dX0_cutFor_22 rfl ?_
  refine G_dup dX0_cutFor_23 rfl ?_
  refine G_getI dX0_cutFor_24 fl_RX0_26 h1 rfl ?_
  refine G_const dX0_cutFor_27 ?_
  refine G_iadd dX0_cutFor_28 ?_
  refine G_putI dX0_cutFor_29 fl_RX0_26 h1 rfl ?_
  refine G_aload_n dX0_cutFor_32 rfl ?_
  refine G_dup dX0_cutFor_33 rfl ?_
  refine G_getI dX0_cutFor_34 fl_RX0_30 h1 rfl ?_
  rw [wI_skip (by decide)]
  refine G_iload_n dX0_cutFor_37 rfl ?_
  refine G_iadd dX0_cutFor_38 ?_
  refine G_putI dX0_cutFor_39 fl_RX0_30 h1 rfl ?_
  refine G_aload_n dX0_cutFor_42 rfl ?_
  refine G_dup dX0_cutFor_43 rfl ?_
  refine G_getI dX0_cutFor_44 fl_RX0_33 h1 rfl ?_
  rw [wI_skip (by decide)]
  rw [wI_skip (by decide)]
  refine G_iload_n dX0_cutFor_47 rfl ?_
  refine G_isub dX0_cutFor_48 ?_
  refine G_putI dX0_cutFor_49 fl_RX0_33 h1 rfl ?_
  refine G_iload_n dX0_cutFor_52 rfl ?_
  exact G_reti dX0_cutFor_53 trivial ⟨rfl, Nat.le_of_ble_eq_true rfl⟩ kr
theorem k_X0_lengthOver_0 {Γ : Gm} {Ret : Option Value → Wd → Prop} {a1 : Int} {p0 : Nat} {w : Wd} (km : G Γ m_X0_lengthOver Ret 0 0 4 [some (vR p0), some (vI a1), some (vI 0), some (vI 0)] [] w) : G Γ m_X0_lengthOver Ret 0 0 0 [some (vR p0), some (vI a1), none, none] [] w := by
  refine G_const dX0_lengthOver_0 ?_
  refine G_istore_n dX0_lengthOver_1 (by decide) rfl ?_
  refine G_const dX0_lengthOver_2 ?_
  refine G_istore_n dX0_lengthOver_3 (by decide) rfl ?_
  exact km
theorem k_X0_lengthOver_4 {Γ : Gm} {Ret : Option Value → Wd → Prop} {a1 a2 a3 : Int} {p0 : Nat} {w : Wd} (kt : (wI w p0 2) ≤ a3 → G Γ m_X0_lengthOver Ret 0 0 36 [some (vR p0), some (vI a1), some (vI a2), some (vI a3)] [] w) (kf : ¬ ((wI w p0 2) ≤ a3) → G Γ m_X0_lengthOver Ret 0 0 12 [some (vR p0), some (vI a1), some (vI a2), some (vI a3)] [] w) (h1 : sh w p0 = some (.inr 0) := by assumption) (h2 : sm a3 := by omega) (h3 : sm (wI w p0 2) := by omega) : G Γ m_X0_lengthOver Ret 0 0 4 [some (vR p0), some (vI a1), some (vI a2), some (vI a3)] [] w := by
  refine G_iload_n dX0_lengthOver_4 rfl ?_
  refine G_aload_n dX0_lengthOver_5 rfl ?_
  refine G_getI dX0_lengthOver_6 fl_RX0_26 h1 rfl ?_
  exact G_icmp_ge dX0_lengthOver_9 (by decide) h2 h3 kt kf
theorem k_X0_lengthOver_36 {Γ : Gm} {Ret : Option Value → Wd → Prop} {o0 o1 o2 o3 : Option Value} {w : Wd} (kr : Ret (some (vI (-4))) w) : G Γ m_X0_lengthOver Ret 0 0 36 [o0, o1, o2, o3] [] w := by
  refine G_bipush dX0_lengthOver_36 (by decide +kernel) ?_
  exact G_reti dX0_lengthOver_38 trivial ⟨rfl, Nat.le_of_ble_eq_true rfl⟩ kr
theorem k_X0_lengthOver_12 {Γ : Gm} {Ret : Option Value → Wd → Prop} {a1 a2 a3 z2 : Int} {p0 q1 : Nat} {w : Wd} (c3 : SpP Γ m_X6_at [vR q1, vI a3] w z2) (kt : (a2 + z2) ≤ a1 → G Γ m_X0_lengthOver Ret 0 0 30 [some (vR p0), some (vI a1), some (vI (a2 + z2)), some (vI a3)] [] w) (kf : ¬ ((a2 + z2) ≤ a1) → G Γ m_X0_lengthOver Ret 0 0 28 [some (vR p0), some (vI a1), some (vI (a2 + z2)), some (vI a3)] [] w) (h1 : sh w p0 = some (.inr 0) := by assumption) (h2 : wR w p0 0 = vR q1 := by assumption) (h4 : sm a1 := by omega) (h5 : sm (a2 + z2) := by omega) : G Γ m_X0_lengthOver Ret 0 0 12 [some (vR p0), some (vI a1), some (vI a2), some (vI a3)] [] w := by
  refine G_iload_n dX0_lengthOver_12 rfl ?_
  refine G_aload_n dX0_lengthOver_13 rfl ?_
  refine G_getR dX0_lengthOver_14 fl_RX0_9 h1 rfl h2 ?_
  refine G_iload_n dX0_lengthOver_17 rfl ?_
  refine G_SP (as := [vR q1, vI a3]) (st := [vI a2]) n0_X6_at dX0_lengthOver_18 ml_RX0_61 mc_X6_at rfl ⟨by decide, ⟨Nat.le_of_ble_eq_true rfl, Nat.le_of_ble_eq_true rfl⟩, Nat.le_of_ble_eq_true rfl⟩ c3 ?_
  refine G_iadd dX0_lengthOver_21 ?_
  refine G_istore_n dX0_lengthOver_22 (by decide) rfl ?_
  refine G_iload_n dX0_lengthOver_23 rfl ?_
  refine G_iload_n dX0_lengthOver_24 rfl ?_
  exact G_icmp_ge dX0_lengthOver_25 (by decide) h4 h5 kt kf
theorem k_X0_lengthOver_30 {Γ : Gm} {Ret : Option Value → Wd → Prop} {a1 a2 a3 : Int} {p0 : Nat} {w : Wd} (km : G Γ m_X0_lengthOver Ret 0 0 4 [some (vR p0), some (vI a1), some (vI a2), some (vI (a3 + 1))] [] w) : G Γ m_X0_lengthOver Ret 0 0 30 [some (vR p0), some (vI a1), some (vI a2), some (vI a3)] [] w := by
  refine G_iinc dX0_lengthOver_30 (by decide) rfl rfl ?_
  refine G_goto dX0_lengthOver_33 (tgt := 4) (by decide) ?_
  exact km
theorem k_X0_lengthOver_28 {Γ : Gm} {Ret : Option Value → Wd → Prop} {a3 : Int} {o0 o1 o2 : Option Value} {w : Wd} (kr : Ret (some (vI a3)) w) : G Γ m_X0_lengthOver Ret 0 0 28 [o0, o1, o2, some (vI a3)] [] w := by
  refine G_iload_n dX0_lengthOver_28 rfl ?_
  exact G_reti dX0_lengthOver_29 trivial ⟨rfl, Nat.le_of_ble_eq_true rfl⟩ kr
theorem k_X0_isSeamAt_0 {Γ : Gm} {Ret : Option Value → Wd → Prop} {a1 z1 z2 : Int} {p0 : Nat} {w : Wd} (c2 : SpP Γ m_X0_lengthOver [vR p0, vI a1] w z1) (c3 : SpP Γ m_X0_lengthOver [vR p0, vI (a1 + 1)] w z2) (kt : z1 = (-4) → G Γ m_X0_isSeamAt Ret 0 0 35 [some (vR p0), some (vI a1), some (vI z1), some (vI z2)] [] w) (kf : ¬ (z1 = (-4)) → G Γ m_X0_isSeamAt Ret 0 0 20 [some (vR p0), some (vI a1), some (vI z1), some (vI z2)] [] w) (h1 : sh w p0 = some (.inr 0) := by assumption) (h4 : sm z1 := by omega) : G Γ m_X0_isSeamAt Ret 0 0 0 [some (vR p0), some (vI a1), none, none] [] w := by
  refine G_aload_n dX0_isSeamAt_0 rfl ?_
  refine G_iload_n dX0_isSeamAt_1 rfl ?_
  refine G_VP (as := [vI a1]) (st := []) n0_X0_lengthOver dX0_isSeamAt_2 ml_RX0_65 mc_X0_lengthOver rfl ⟨by decide, ⟨Nat.le_of_ble_eq_true rfl, Nat.le_of_ble_eq_true rfl⟩, Nat.le_of_ble_eq_true rfl⟩ h1 ⟨_, _, rfl⟩ c2 ?_
  refine G_istore_n dX0_isSeamAt_5 (by decide) rfl ?_
  refine G_aload_n dX0_isSeamAt_6 rfl ?_
  refine G_iload_n dX0_isSeamAt_7 rfl ?_
  refine G_const dX0_isSeamAt_8 ?_
  refine G_iadd dX0_isSeamAt_9 ?_
  refine G_VP (as := [vI (a1 + 1)]) (st := []) n0_X0_lengthOver dX0_isSeamAt_10 ml_RX0_65 mc_X0_lengthOver rfl ⟨by decide, ⟨Nat.le_of_ble_eq_true rfl, Nat.le_of_ble_eq_true rfl⟩, Nat.le_of_ble_eq_true rfl⟩ h1 ⟨_, _, rfl⟩ c3 ?_
  refine G_istore_n dX0_isSeamAt_13 (by decide) rfl ?_
  refine G_iload_n dX0_isSeamAt_14 rfl ?_
  refine G_bipush dX0_isSeamAt_15 (by decide +kernel) ?_
  exact G_icmp_eq dX0_isSeamAt_17 (by decide) h4 (by decide) kt kf
theorem k_X0_isSeamAt_35 {Γ : Gm} {Ret : Option Value → Wd → Prop} {o0 o1 o2 o3 : Option Value} {w : Wd} (kr : Ret (some (vI 0)) w) : G Γ m_X0_isSeamAt Ret 0 0 35 [o0, o1, o2, o3] [] w := by
  refine G_const dX0_isSeamAt_35 ?_
  exact G_reti dX0_isSeamAt_36 (Or.inl rfl) ⟨rfl, Nat.le_of_ble_eq_true rfl⟩ kr
theorem k_X0_isSeamAt_20 {Γ : Gm} {Ret : Option Value → Wd → Prop} {a2 a3 : Int} {o0 o1 : Option Value} {w : Wd} (kt : a3 = (-4) → G Γ m_X0_isSeamAt Ret 0 0 35 [o0, o1, some (vI a2), some (vI a3)] [] w) (kf : ¬ (a3 = (-4)) → G Γ m_X0_isSeamAt Ret 0 0 26 [o0, o1, some (vI a2), some (vI a3)] [] w) (h1 : sm a3 := by omega) : G Γ m_X0_isSeamAt Ret 0 0 20 [o0, o1, some (vI a2), some (vI a3)] [] w := by
  refine G_iload_n dX0_isSeamAt_20 rfl ?_
  refine G_bipush dX0_isSeamAt_21 (by decide +kernel) ?_
  exact G_icmp_eq dX0_isSeamAt_23 (by decide) h1 (by decide) kt kf
theorem k_X0_isSeamAt_26 {Γ : Gm} {Ret : Option Value → Wd → Prop} {a2 a3 : Int} {o0 o1 : Option Value} {w : Wd} (kt : a2 = a3 → G Γ m_X0_isSeamAt Ret 0 0 35 [o0, o1, some (vI a2), some (vI a3)] [] w) (kf : ¬ (a2 = a3) → G Γ m_X0_isSeamAt Ret 0 0 31 [o0, o1, some (vI a2), some (vI a3)] [] w) (h1 : sm a2 := by omega) (h2 : sm a3 := by omega) : G Γ m_X0_isSeamAt Ret 0 0 26 [o0, o1, some (vI a2), some (vI a3)] [] w := by
  refine G_iload_n dX0_isSeamAt_26 rfl ?_
  refine G_iload_n dX0_isSeamAt_27 rfl ?_
  exact G_icmp_eq dX0_isSeamAt_28 (by decide) h1 h2 kt kf
theorem k_X0_isSeamAt_31 {Γ : Gm} {Ret : Option Value → Wd → Prop} {o0 o1 o2 o3 : Option Value} {w : Wd} (kr : Ret (some (vI 1)) w) : G Γ m_X0_isSeamAt Ret 0 0 31 [o0, o1, o2, o3] [] w := by
  refine G_const dX0_isSeamAt_31 ?_
  refine G_goto dX0_isSeamAt_32 (tgt := 36) (by decide) ?_
  exact G_reti dX0_isSeamAt_36 (Or.inr rfl) ⟨rfl, Nat.le_of_ble_eq_true rfl⟩ kr
theorem k_X0_hasRestFor_0 {Γ : Gm} {Ret : Option Value → Wd → Prop} {a2 a3 : Int} {p0 p1 : Nat} {w : Wd} (km : G Γ m_X0_hasRestFor Ret 0 0 6 [some (vR p0), some (vR p1), some (vI a2), some (vI a3), some (vI 0), some (vI 0), none] [] w) : G Γ m_X0_hasRestFor Ret 0 0 0 [some (vR p0), some (vR p1), some (vI a2), some (vI a3), none, none, none] [] w := by
  refine G_const dX0_hasRestFor_0 ?_
  refine G_istore dX0_hasRestFor_1 (by decide) rfl ?_
  refine G_const dX0_hasRestFor_3 ?_
  refine G_istore dX0_hasRestFor_4 (by decide) rfl ?_
  exact km
theorem k_X0_hasRestFor_6 {Γ : Gm} {Ret : Option Value → Wd → Prop} {a2 a3 a4 a5 : Int} {p0 p1 : Nat} {o6 : Option Value} {w : Wd} (kt : (wI w p0 2) ≤ a5 → G Γ m_X0_hasRestFor Ret 0 0 64 [some (vR p0), some (vR p1), some (vI a2), some (vI a3), some (vI a4), some (vI a5), o6] [] w) (kf : ¬ ((wI w p0 2) ≤ a5) → G Γ m_X0_hasRestFor Ret 0 0 15 [some (vR p0), some (vR p1), some (vI a2), some (vI a3), some (vI a4), some (vI a5), o6] [] w) (h1 : sh w p0 = some (.inr 0) := by assumption) (h2 : sm a5 := by omega) (h3 : sm (wI w p0 2) := by omega) : G Γ m_X0_hasRestFor Ret 0 0 6 [some (vR p0), some (vR p1), some (vI a2), some (vI a3), some (vI a4), some (vI a5), o6] [] w := by
  refine G_iload dX0_hasRestFor_6 rfl ?_
  refine G_aload_n dX0_hasRestFor_8 rfl ?_
  refine G_getI dX0_hasRestFor_9 fl_RX0_26 h1 rfl ?_
  exact G_icmp_ge dX0_hasRestFor_12 (by decide) h2 h3 kt kf
theorem k_X0_hasRestFor_64 {Γ : Gm} {Ret : Option Value → Wd → Prop} {o0 o1 o2 o3 o4 o5 o6 : Option Value} {w : Wd} (kr : Ret (some (vI 0)) w) : G Γ m_X0_hasRestFor Ret 0 0 64 [o0, o1, o2, o3, o4, o5, o6] [] w := by
  refine G_const dX0_hasRestFor_64 ?_
  exact G_reti dX0_hasRestFor_65 (Or.inl rfl) ⟨rfl, Nat.le_of_ble_eq_true rfl⟩ kr
theorem k_X0_hasRestFor_15 {Γ : Gm} {Ret : Option Value → Wd → Prop} {a2 a3 a4 a5 z2 : Int} {p0 p1 q1 : Nat} {o6 : Option Value} {w : Wd} (c3 : SpP Γ m_X6_at [vR q1, vI a5] w z2) (kt : ((wI w p1 7) - z2) < a2 → G Γ m_X0_hasRestFor Ret 0 0 51 [some (vR p0), some (vR p1), some (vI a2), some (vI a3), some (vI a4), some (vI a5), some (vI z2)] [] w) (kf : ¬ (((wI w p1 7) - z2) < a2) → G Γ m_X0_hasRestFor Ret 0 0 37 [some (vR p0), some (vR p1), some (vI a2), some (vI a3), some (vI a4), some (vI a5), some (vI z2)] [] w) (h1 : sh w p0 = some (.inr 0) := by assumption) (h2 : wR w p0 0 = vR q1 := by assumption) (h4 : sh w p1 = some (.inr 3) := by assumption) (h5 : sm ((wI w p1 7) - z2) := by omega) (h6 : sm a2 := by omega) : G Γ m_X0_hasRestFor Ret 0 0 15 [some (vR p0), some (vR p1), some (vI a2), some (vI a3), some (vI a4), some (vI a5), o6] [] w := by
  refine G_aload_n dX0_hasRestFor_15 rfl ?_
  refine G_getR dX0_hasRestFor_16 fl_RX0_9 h1 rfl h2 ?_
  refine G_iload dX0_hasRestFor_19 rfl ?_
  refine G_SP (as := [vR q1, vI a5]) (st := []) n0_X6_at dX0_hasRestFor_21 ml_RX0_61 mc_X6_at rfl ⟨by decide, ⟨Nat.le_of_ble_eq_true rfl, Nat.le_of_ble_eq_true rfl⟩, Nat.le_of_ble_eq_true rfl⟩ c3 ?_
  refine G_istore dX0_hasRestFor_24 (by decide) rfl ?_
  refine G_aload_n dX0_hasRestFor_26 rfl ?_
  refine G_getI dX0_hasRestFor_27 fl_RX0_54 h4 rfl ?_
  refine G_iload dX0_hasRestFor_30 rfl ?_
  refine G_isub dX0_hasRestFor_32 ?_
  refine G_iload_n dX0_hasRestFor_33 rfl ?_
  exact G_icmp_lt dX0_hasRestFor_34 (by decide) h5 h6 kt kf
theorem k_X0_hasRestFor_51 {Γ : Gm} {Ret : Option Value → Wd → Prop} {a2 a3 a4 a5 a6 : Int} {p0 p1 : Nat} {w : Wd} (km : G Γ m_X0_hasRestFor Ret 0 0 6 [some (vR p0), some (vR p1), some (vI a2), some (vI a3), some (vI (a4 + a6)), some (vI (a5 + 1)), some (vI a6)] [] w) : G Γ m_X0_hasRestFor Ret 0 0 51 [some (vR p0), some (vR p1), some (vI a2), some (vI a3), some (vI a4), some (vI a5), some (vI a6)] [] w := by
  refine G_iload dX0_hasRestFor_51 rfl ?_
  refine G_iload dX0_hasRestFor_53 rfl ?_
  refine G_iadd dX0_hasRestFor_55 ?_
  refine G_istore dX0_hasRestFor_56 (by decide) rfl ?_
  refine G_iinc dX0_hasRestFor_58 (by decide) rfl rfl ?_
  refine G_goto dX0_hasRestFor_61 (tgt := 6) (by decide) ?_
  exact km
theorem k_X0_hasRestFor_37 {Γ : Gm} {Ret : Option Value → Wd → Prop} {a2 a3 a4 a5 a6 z1 : Int} {p0 p1 : Nat} {w : Wd} (c2 : SpP Γ m_X3_lengthFor [vR p1, vI a4, vI a6] w z1) (kt : z1 < a3 → G Γ m_X0_hasRestFor Ret 0 0 51 [some (vR p0), some (vR p1), some (vI a2), some (vI a3), some (vI a4), some (vI a5), some (vI a6)] [] w) (kf : ¬ (z1 < a3) → G Γ m_X0_hasRestFor Ret 0 0 49 [some (vR p0), some (vR p1), some (vI a2), some (vI a3), some (vI a4), some (vI a5), some (vI a6)] [] w) (h1 : sh w p1 = some (.inr 3) := by assumption) (h3 : sm z1 := by omega) (h4 : sm a3 := by omega) : G Γ m_X0_hasRestFor Ret 0 0 37 [some (vR p0), some (vR p1), some (vI a2), some (vI a3), some (vI a4), some (vI a5), some (vI a6)] [] w := by
  refine G_aload_n dX0_hasRestFor_37 rfl ?_
  refine G_iload dX0_hasRestFor_38 rfl ?_
  refine G_iload dX0_hasRestFor_40 rfl ?_
  refine G_VP (as := [vI a4, vI a6]) (st := []) n0_X3_lengthFor dX0_hasRestFor_42 ml_RX0_57 mc_X3_lengthFor rfl ⟨by decide, ⟨Nat.le_of_ble_eq_true rfl, Nat.le_of_ble_eq_true rfl⟩, Nat.le_of_ble_eq_true rfl⟩ h1 ⟨_, _, rfl⟩ c2 ?_
  refine G_iload_n dX0_hasRestFor_45 rfl ?_
  exact G_icmp_lt dX0_hasRestFor_46 (by decide) h3 h4 kt kf
theorem k_X0_hasRestFor_49 {Γ : Gm} {Ret : Option Value → Wd → Prop} {o0 o1 o2 o3 o4 o5 o6 : Option Value} {w : Wd} (kr : Ret (some (vI 1)) w) : G Γ m_X0_hasRestFor Ret 0 0 49 [o0, o1, o2, o3, o4, o5, o6] [] w := by
  refine G_const dX0_hasRestFor_49 ?_
  exact G_reti dX0_hasRestFor_50 (Or.inr rfl) ⟨rfl, Nat.le_of_ble_eq_true rfl⟩ kr
theorem k_X0_areaOfRests_0 {Γ : Gm} {Ret : Option Value → Wd → Prop} {p0 p1 : Nat} {w : Wd} (km : G Γ m_X0_areaOfRests Ret 0 0 7 [some (vR p0), some (vR p1), some (vI 0), some (vI 0), some (vI 0), none] [] w) : G Γ m_X0_areaOfRests Ret 0 0 0 [some (vR p0), some (vR p1), none, none, none, none] [] w := by
  refine G_const dX0_areaOfRests_0 ?_
  refine G_istore_n dX0_areaOfRests_1 (by decide) rfl ?_
  refine G_const dX0_areaOfRests_2 ?_
  refine G_istore_n dX0_areaOfRests_3 (by decide) rfl ?_
  refine G_const dX0_areaOfRests_4 ?_
  refine G_istore dX0_areaOfRests_5 (by decide) rfl ?_
  exact km
theorem k_X0_areaOfRests_7 {Γ : Gm} {Ret : Option Value → Wd → Prop} {a2 a3 a4 : Int} {p0 p1 : Nat} {o5 : Option Value} {w : Wd} (kt : (wI w p0 2) ≤ a4 → G Γ m_X0_areaOfRests Ret 0 0 56 [some (vR p0), some (vR p1), some (vI a2), some (vI a3), some (vI a4), o5] [] w) (kf : ¬ ((wI w p0 2) ≤ a4) → G Γ m_X0_areaOfRests Ret 0 0 16 [some (vR p0), some (vR p1), some (vI a2), some (vI a3), some (vI a4), o5] [] w) (h1 : sh w p0 = some (.inr 0) := by assumption) (h2 : sm a4 := by omega) (h3 : sm (wI w p0 2) := by omega) : G Γ m_X0_areaOfRests Ret 0 0 7 [some (vR p0), some (vR p1), some (vI a2), some (vI a3), some (vI a4), o5] [] w := by
  refine G_iload dX0_areaOfRests_7 rfl ?_
  refine G_aload_n dX0_areaOfRests_9 rfl ?_
  refine G_getI dX0_areaOfRests_10 fl_RX0_26 h1 rfl ?_
  exact G_icmp_ge dX0_areaOfRests_13 (by decide) h2 h3 kt kf
theorem k_X0_areaOfRests_56 {Γ : Gm} {Ret : Option Value → Wd → Prop} {a3 : Int} {o0 o1 o2 o4 o5 : Option Value} {w : Wd} (kr : Ret (some (vI a3)) w) : G Γ m_X0_areaOfRests Ret 0 0 56 [o0, o1, o2, some (vI a3), o4, o5] [] w := by
  refine G_iload_n dX0_areaOfRests_56 rfl ?_
  exact G_reti dX0_areaOfRests_57 trivial ⟨rfl, Nat.le_of_ble_eq_true rfl⟩ kr
theorem k_X0_areaOfRests_16 {Γ : Gm} {Ret : Option Value → Wd → Prop} {a2 a3 a4 z2 z3 : Int} {p0 p1 q1 : Nat} {o5 : Option Value} {w : Wd} (c3 : SpP Γ m_X6_at [vR q1, vI a4] w z2) (c5 : SpP Γ m_X3_lengthFor [vR p1, vI a2, vI z2] w z3) (km : G Γ m_X0_areaOfRests Ret 0 0 7 [some (vR p0), some (vR p1), some (vI (a2 + z2)), some (vI (a3 + (((wI w p1 7) - z2) * z3))), some (vI (a4 + 1)), some (vI z2)] [] w) (h1 : sh w p0 = some (.inr 0) := by assumption) (h2 : wR w p0 0 = vR q1 := by assumption) (h4 : sh w p1 = some (.inr 3) := by assumption) : G Γ m_X0_areaOfRests Ret 0 0 16 [some (vR p0), some (vR p1), some (vI a2), some (vI a3), some (vI a4), o5] [] w := by
  refine G_aload_n dX0_areaOfRests_16 rfl ?_
  refine G_getR dX0_areaOfRests_17 fl_RX0_9 h1 rfl h2 ?_
  refine G_iload dX0_areaOfRests_20 rfl ?_
  refine G_SP (as := [vR q1, vI a4]) (st := []) n0_X6_at dX0_areaOfRests_22 ml_RX0_61 mc_X6_at rfl ⟨by decide, ⟨Nat.le_of_ble_eq_true rfl, Nat.le_of_ble_eq_true rfl⟩, Nat.le_of_ble_eq_true rfl⟩ c3 ?_
  refine G_istore dX0_areaOfRests_25 (by decide) rfl ?_
  refine G_iload_n dX0_areaOfRests_27 rfl ?_
  refine G_aload_n dX0_areaOfRests_28 rfl ?_
  refine G_getI dX0_areaOfRests_29 fl_RX0_54 h4 rfl ?_
  refine G_iload dX0_areaOfRests_32 rfl ?_
  refine G_isub dX0_areaOfRests_34 ?_
  refine G_aload_n dX0_areaOfRests_35 rfl ?_
  refine G_iload_n dX0_areaOfRests_36 rfl ?_
  refine G_iload dX0_areaOfRests_37 rfl ?_
  refine G_VP (as := [vI a2, vI z2]) (st := [vI ((wI w p1 7) - z2), vI a3]) n0_X3_lengthFor dX0_areaOfRests_39 ml_RX0_57 mc_X3_lengthFor rfl ⟨by decide, ⟨Nat.le_of_ble_eq_true rfl, Nat.le_of_ble_eq_true rfl⟩, Nat.le_of_ble_eq_true rfl⟩ h4 ⟨_, _, rfl⟩ c5 ?_
  refine G_imul dX0_areaOfRests_42 ?_
  refine G_iadd dX0_areaOfRests_43 ?_
  refine G_istore_n dX0_areaOfRests_44 (by decide) rfl ?_
  refine G_iload_n dX0_areaOfRests_45 rfl ?_
  refine G_iload dX0_areaOfRests_46 rfl ?_
  refine G_iadd dX0_areaOfRests_48 ?_
  refine G_istore_n dX0_areaOfRests_49 (by decide) rfl ?_
  refine G_iinc dX0_areaOfRests_50 (by decide) rfl rfl ?_
  refine G_goto dX0_areaOfRests_53 (tgt := 7) (by decide) ?_
  exact km
theorem k_X0_tightness_0 {Γ : Gm} {Ret : Option Value → Wd → Prop} {a1 z2 : Int} {p0 q1 : Nat} {w : Wd} (c3 : SpP Γ m_X6_at [vR q1, vI a1] w z2) (kr : Ret (some (vI z2)) w) (h1 : sh w p0 = some (.inr 0) := by assumption) (h2 : wR w p0 1 = vR q1 := by assumption) : G Γ m_X0_tightness Ret 0 0 0 [some (vR p0), some (vI a1)] [] w := by
  refine G_aload_n dX0_tightness_0 rfl ?_
  refine G_getR dX0_tightness_1 fl_RX0_15 h1 rfl h2 ?_
  refine G_iload_n dX0_tightness_4 rfl ?_
  refine G_SP (as := [vR q1, vI a1]) (st := []) n0_X6_at dX0_tightness_5 ml_RX0_61 mc_X6_at rfl ⟨by decide, ⟨Nat.le_of_ble_eq_true rfl, Nat.le_of_ble_eq_true rfl⟩, Nat.le_of_ble_eq_true rfl⟩ c3 ?_
  exact G_reti dX0_tightness_8 trivial ⟨rfl, Nat.le_of_ble_eq_true rfl⟩ kr
theorem k_X0_isHooked_0 {Γ : Gm} {Ret : Option Value → Wd → Prop} {a1 : Int} {p0 : Nat} {w : Wd} (kt : (zand (zshr (wI w p0 5) a1) 1) ≠ 1 → G Γ m_X0_isHooked Ret 0 0 16 [some (vR p0), some (vI a1)] [] w) (kf : (zand (zshr (wI w p0 5) a1) 1) = 1 → G Γ m_X0_isHooked Ret 0 0 12 [some (vR p0), some (vI a1)] [] w) (h1 : sh w p0 = some (.inr 0) := by assumption) : G Γ m_X0_isHooked Ret 0 0 0 [some (vR p0), some (vI a1)] [] w := by
  refine G_aload_n dX0_isHooked_0 rfl ?_
  refine G_getI dX0_isHooked_1 fl_RX0_36 h1 rfl ?_
  refine G_iload_n dX0_isHooked_4 rfl ?_
  refine G_ishr dX0_isHooked_5 ?_
  refine G_const dX0_isHooked_6 ?_
  refine G_iand dX0_isHooked_7 ?_
  refine G_const dX0_isHooked_8 ?_
  exact G_icmp_ne dX0_isHooked_9 (by decide) (sm_of _) (by decide) kt kf
theorem k_X0_isHooked_16 {Γ : Gm} {Ret : Option Value → Wd → Prop} {o0 o1 : Option Value} {w : Wd} (kr : Ret (some (vI 0)) w) : G Γ m_X0_isHooked Ret 0 0 16 [o0, o1] [] w := by
  refine G_const dX0_isHooked_16 ?_
  exact G_reti dX0_isHooked_17 (Or.inl rfl) ⟨rfl, Nat.le_of_ble_eq_true rfl⟩ kr
theorem k_X0_isHooked_12 {Γ : Gm} {Ret : Option Value → Wd → Prop} {o0 o1 : Option Value} {w : Wd} (kr : Ret (some (vI 1)) w) : G Γ m_X0_isHooked Ret 0 0 12 [o0, o1] [] w := by
  refine G_const dX0_isHooked_12 ?_
  refine G_goto dX0_isHooked_13 (tgt := 17) (by decide) ?_
  exact G_reti dX0_isHooked_17 (Or.inr rfl) ⟨rfl, Nat.le_of_ble_eq_true rfl⟩ kr
theorem k_X0_isTorn_0 {Γ : Gm} {Ret : Option Value → Wd → Prop} {a1 : Int} {p0 : Nat} {w : Wd} (kt : (zand (zshr (wI w p0 6) a1) 1) ≠ 1 → G Γ m_X0_isTorn Ret 0 0 16 [some (vR p0), some (vI a1)] [] w) (kf : (zand (zshr (wI w p0 6) a1) 1) = 1 → G Γ m_X0_isTorn Ret 0 0 12 [some (vR p0), some (vI a1)] [] w) (h1 : sh w p0 = some (.inr 0) := by assumption) : G Γ m_X0_isTorn Ret 0 0 0 [some (vR p0), some (vI a1)] [] w := by
  refine G_aload_n dX0_isTorn_0 rfl ?_
  refine G_getI dX0_isTorn_1 fl_RX0_39 h1 rfl ?_
  refine G_iload_n dX0_isTorn_4 rfl ?_
  refine G_ishr dX0_isTorn_5 ?_
  refine G_const dX0_isTorn_6 ?_
  refine G_iand dX0_isTorn_7 ?_
  refine G_const dX0_isTorn_8 ?_
  exact G_icmp_ne dX0_isTorn_9 (by decide) (sm_of _) (by decide) kt kf
theorem k_X0_isTorn_16 {Γ : Gm} {Ret : Option Value → Wd → Prop} {o0 o1 : Option Value} {w : Wd} (kr : Ret (some (vI 0)) w) : G Γ m_X0_isTorn Ret 0 0 16 [o0, o1] [] w := by
  refine G_const dX0_isTorn_16 ?_
  exact G_reti dX0_isTorn_17 (Or.inl rfl) ⟨rfl, Nat.le_of_ble_eq_true rfl⟩ kr
theorem k_X0_isTorn_12 {Γ : Gm} {Ret : Option Value → Wd → Prop} {o0 o1 : Option Value} {w : Wd} (kr : Ret (some (vI 1)) w) : G Γ m_X0_isTorn Ret 0 0 12 [o0, o1] [] w := by
  refine G_const dX0_isTorn_12 ?_
  refine G_goto dX0_isTorn_13 (tgt := 17) (by decide) ?_
  exact G_reti dX0_isTorn_17 (Or.inr rfl) ⟨rfl, Nat.le_of_ble_eq_true rfl⟩ kr
theorem k_X0_isFree_0 {Γ : Gm} {Ret : Option Value → Wd → Prop} {a1 z1 : Int} {p0 : Nat} {w : Wd} (c2 : SpP Γ m_X0_isHooked [vR p0, vI a1] w z1) (kt : z1 ≠ 0 → G Γ m_X0_isFree Ret 0 0 20 [some (vR p0), some (vI a1)] [] w) (kf : z1 = 0 → G Γ m_X0_isFree Ret 0 0 8 [some (vR p0), some (vI a1)] [] w) (h1 : sh w p0 = some (.inr 0) := by assumption) (h3 : sm z1 := by omega) : G Γ m_X0_isFree Ret 0 0 0 [some (vR p0), some (vI a1)] [] w := by
  refine G_aload_n dX0_isFree_0 rfl ?_
  refine G_iload_n dX0_isFree_1 rfl ?_
  refine G_VP (as := [vI a1]) (st := []) n0_X0_isHooked dX0_isFree_2 ml_RX0_69 mc_X0_isHooked rfl ⟨by decide, ⟨Nat.le_of_ble_eq_true rfl, Nat.le_of_ble_eq_true rfl⟩, Nat.le_of_ble_eq_true rfl⟩ h1 ⟨_, _, rfl⟩ c2 ?_
  exact G_if_ne dX0_isFree_5 (by decide) h3 kt kf
theorem k_X0_isFree_20 {Γ : Gm} {Ret : Option Value → Wd → Prop} {o0 o1 : Option Value} {w : Wd} (kr : Ret (some (vI 0)) w) : G Γ m_X0_isFree Ret 0 0 20 [o0, o1] [] w := by
  refine G_const dX0_isFree_20 ?_
  exact G_reti dX0_isFree_21 (Or.inl rfl) ⟨rfl, Nat.le_of_ble_eq_true rfl⟩ kr
theorem k_X0_isFree_8 {Γ : Gm} {Ret : Option Value → Wd → Prop} {a1 z1 : Int} {p0 : Nat} {w : Wd} (c2 : SpP Γ m_X0_isTorn [vR p0, vI a1] w z1) (kt : z1 ≠ 0 → G Γ m_X0_isFree Ret 0 0 20 [some (vR p0), some (vI a1)] [] w) (kf : z1 = 0 → G Γ m_X0_isFree Ret 0 0 16 [some (vR p0), some (vI a1)] [] w) (h1 : sh w p0 = some (.inr 0) := by assumption) (h3 : sm z1 := by omega) : G Γ m_X0_isFree Ret 0 0 8 [some (vR p0), some (vI a1)] [] w := by
  refine G_aload_n dX0_isFree_8 rfl ?_
  refine G_iload_n dX0_isFree_9 rfl ?_
  refine G_VP (as := [vI a1]) (st := []) n0_X0_isTorn dX0_isFree_10 ml_RX0_73 mc_X0_isTorn rfl ⟨by decide, ⟨Nat.le_of_ble_eq_true rfl, Nat.le_of_ble_eq_true rfl⟩, Nat.le_of_ble_eq_true rfl⟩ h1 ⟨_, _, rfl⟩ c2 ?_
  exact G_if_ne dX0_isFree_13 (by decide) h3 kt kf
theorem k_X0_isFree_16 {Γ : Gm} {Ret : Option Value → Wd → Prop} {o0 o1 : Option Value} {w : Wd} (kr : Ret (some (vI 1)) w) : G Γ m_X0_isFree Ret 0 0 16 [o0, o1] [] w := by
  refine G_const dX0_isFree_16 ?_
  refine G_goto dX0_isFree_17 (tgt := 21) (by decide) ?_
  exact G_reti dX0_isFree_21 (Or.inr rfl) ⟨rfl, Nat.le_of_ble_eq_true rfl⟩ kr
theorem k_X0_isWaving_0 {Γ : Gm} {Ret : Option Value → Wd → Prop} {a1 z1 : Int} {p0 : Nat} {w : Wd} (c2 : SpP Γ m_X0_isHooked [vR p0, vI a1] w z1) (kt : z1 = 0 → G Γ m_X0_isWaving Ret 0 0 21 [some (vR p0), some (vI a1)] [] w) (kf : ¬ (z1 = 0) → G Γ m_X0_isWaving Ret 0 0 8 [some (vR p0), some (vI a1)] [] w) (h1 : sh w p0 = some (.inr 0) := by assumption) (h3 : sm z1 := by omega) : G Γ m_X0_isWaving Ret 0 0 0 [some (vR p0), some (vI a1)] [] w := by
  refine G_aload_n dX0_isWaving_0 rfl ?_
  refine G_iload_n dX0_isWaving_1 rfl ?_
  refine G_VP (as := [vI a1]) (st := []) n0_X0_isHooked dX0_isWaving_2 ml_RX0_69 mc_X0_isHooked rfl ⟨by decide, ⟨Nat.le_of_ble_eq_true rfl, Nat.le_of_ble_eq_true rfl⟩, Nat.le_of_ble_eq_true rfl⟩ h1 ⟨_, _, rfl⟩ c2 ?_
  exact G_if_eq dX0_isWaving_5 (by decide) h3 kt kf
theorem k_X0_isWaving_21 {Γ : Gm} {Ret : Option Value → Wd → Prop} {o0 o1 : Option Value} {w : Wd} (kr : Ret (some (vI 0)) w) : G Γ m_X0_isWaving Ret 0 0 21 [o0, o1] [] w := by
  refine G_const dX0_isWaving_21 ?_
  exact G_reti dX0_isWaving_22 (Or.inl rfl) ⟨rfl, Nat.le_of_ble_eq_true rfl⟩ kr
theorem k_X0_isWaving_8 {Γ : Gm} {Ret : Option Value → Wd → Prop} {a1 z1 : Int} {p0 : Nat} {w : Wd} (c2 : SpP Γ m_X0_tightness [vR p0, vI a1] w z1) (kt : 2 ≤ z1 → G Γ m_X0_isWaving Ret 0 0 21 [some (vR p0), some (vI a1)] [] w) (kf : ¬ (2 ≤ z1) → G Γ m_X0_isWaving Ret 0 0 17 [some (vR p0), some (vI a1)] [] w) (h1 : sh w p0 = some (.inr 0) := by assumption) (h3 : sm z1 := by omega) : G Γ m_X0_isWaving Ret 0 0 8 [some (vR p0), some (vI a1)] [] w := by
  refine G_aload_n dX0_isWaving_8 rfl ?_
  refine G_iload_n dX0_isWaving_9 rfl ?_
  refine G_VP (as := [vI a1]) (st := []) n0_X0_tightness dX0_isWaving_10 ml_RX0_76 mc_X0_tightness rfl ⟨by decide, ⟨Nat.le_of_ble_eq_true rfl, Nat.le_of_ble_eq_true rfl⟩, Nat.le_of_ble_eq_true rfl⟩ h1 ⟨_, _, rfl⟩ c2 ?_
  refine G_const dX0_isWaving_13 ?_
  exact G_icmp_ge dX0_isWaving_14 (by decide) h3 (by decide) kt kf
theorem k_X0_isWaving_17 {Γ : Gm} {Ret : Option Value → Wd → Prop} {o0 o1 : Option Value} {w : Wd} (kr : Ret (some (vI 1)) w) : G Γ m_X0_isWaving Ret 0 0 17 [o0, o1] [] w := by
  refine G_const dX0_isWaving_17 ?_
  refine G_goto dX0_isWaving_18 (tgt := 22) (by decide) ?_
  exact G_reti dX0_isWaving_22 (Or.inr rfl) ⟨rfl, Nat.le_of_ble_eq_true rfl⟩ kr
theorem k_X0_tightnessInAll_0 {Γ : Gm} {Ret : Option Value → Wd → Prop} {p0 : Nat} {w : Wd} (km : G Γ m_X0_tightnessInAll Ret 0 0 4 [some (vR p0), some (vI 0), some (vI 0)] [] w) : G Γ m_X0_tightnessInAll Ret 0 0 0 [some (vR p0), none, none] [] w := by
  refine G_const dX0_tightnessInAll_0 ?_
  refine G_istore_n dX0_tightnessInAll_1 (by decide) rfl ?_
  refine G_const dX0_tightnessInAll_2 ?_
  refine G_istore_n dX0_tightnessInAll_3 (by decide) rfl ?_
  exact km
theorem k_X0_tightnessInAll_4 {Γ : Gm} {Ret : Option Value → Wd → Prop} {a1 a2 : Int} {p0 : Nat} {w : Wd} (kt : 4 ≤ a2 → G Γ m_X0_tightnessInAll Ret 0 0 23 [some (vR p0), some (vI a1), some (vI a2)] [] w) (kf : ¬ (4 ≤ a2) → G Γ m_X0_tightnessInAll Ret 0 0 9 [some (vR p0), some (vI a1), some (vI a2)] [] w) (h1 : sm a2 := by omega) : G Γ m_X0_tightnessInAll Ret 0 0 4 [some (vR p0), some (vI a1), some (vI a2)] [] w := by
  refine G_iload_n dX0_tightnessInAll_4 rfl ?_
  refine G_const dX0_tightnessInAll_5 ?_
  exact G_icmp_ge dX0_tightnessInAll_6 (by decide) h1 (by decide) kt kf
theorem k_X0_tightnessInAll_23 {Γ : Gm} {Ret : Option Value → Wd → Prop} {a1 : Int} {o0 o2 : Option Value} {w : Wd} (kr : Ret (some (vI a1)) w) : G Γ m_X0_tightnessInAll Ret 0 0 23 [o0, some (vI a1), o2] [] w := by
  refine G_iload_n dX0_tightnessInAll_23 rfl ?_
  exact G_reti dX0_tightnessInAll_24 trivial ⟨rfl, Nat.le_of_ble_eq_true rfl⟩ kr
theorem k_X0_tightnessInAll_9 {Γ : Gm} {Ret : Option Value → Wd → Prop} {a1 a2 z1 : Int} {p0 : Nat} {w : Wd} (c2 : SpP Γ m_X0_tightness [vR p0, vI a2] w z1) (km : G Γ m_X0_tightnessInAll Ret 0 0 4 [some (vR p0), some (vI (a1 + z1)), some (vI (a2 + 1))] [] w) (h1 : sh w p0 = some (.inr 0) := by assumption) : G Γ m_X0_tightnessInAll Ret 0 0 9 [some (vR p0), some (vI a1), some (vI a2)] [] w := by
  refine G_iload_n dX0_tightnessInAll_9 rfl ?_
  refine G_aload_n dX0_tightnessInAll_10 rfl ?_
  refine G_iload_n dX0_tightnessInAll_11 rfl ?_
  refine G_VP (as := [vI a2]) (st := [vI a1]) n0_X0_tightness dX0_tightnessInAll_12 ml_RX0_76 mc_X0_tightness rfl ⟨by decide, ⟨Nat.le_of_ble_eq_true rfl, Nat.le_of_ble_eq_true rfl⟩, Nat.le_of_ble_eq_true rfl⟩ h1 ⟨_, _, rfl⟩ c2 ?_
  refine G_iadd dX0_tightnessInAll_15 ?_
  refine G_istore_n dX0_tightnessInAll_16 (by decide) rfl ?_
  refine G_iinc dX0_tightnessInAll_17 (by decide) rfl rfl ?_
  refine G_goto dX0_tightnessInAll_20 (tgt := 4) (by decide) ?_
  exact km
theorem k_X0_tightnessBy_0 {Γ : Gm} {Ret : Option Value → Wd → Prop} {a2 a3 : Int} {p0 p1 : Nat} {w : Wd} (kt : (wI w p0 5) ≠ 0 → G Γ m_X0_tightnessBy Ret 0 0 9 [some (vR p0), some (vR p1), some (vI a2), some (vI a3), none, none] [] w) (kf : (wI w p0 5) = 0 → G Γ m_X0_tightnessBy Ret 0 0 7 [some (vR p0), some (vR p1), some (vI a2), some (vI a3), none, none] [] w) (h1 : sh w p0 = some (.inr 0) := by assumption) (h2 : sm (wI w p0 5) := by omega) : G Γ m_X0_tightnessBy Ret 0 0 0 [some (vR p0), some (vR p1), some (vI a2), some (vI a3), none, none] [] w := by
  refine G_aload_n dX0_tightnessBy_0 rfl ?_
  refine G_getI dX0_tightnessBy_1 fl_RX0_36 h1 rfl ?_
  exact G_if_ne dX0_tightnessBy_4 (by decide) h2 kt kf
theorem k_X0_tightnessBy_9 {Γ : Gm} {Ret : Option Value → Wd → Prop} {a2 a3 z1 z2 z3 : Int} {p0 p1 : Nat} {o4 o5 : Option Value} {w : Wd} (c4 : SpP Γ m_J6_bitCount_0f7a4 [vI (wI w p0 5)] w z1) (c5 : SpP Γ m_X6_slackOf [vI (wI w p1 11), vI (wI w p1 12), vI z1] w z2) (c6 : SpP Γ m_X0_tightness [vR p0, vI (Int.tmod (a2 + 2) 4)] w z3) (kr : Ret (some (vI (max 0 ((a3 + (Int.tdiv z3 2)) - z2)))) w) (h1 : sm (a2 + 2) := by omega) (h2 : sh w p1 = some (.inr 3) := by assumption) (h3 : sh w p0 = some (.inr 0) := by assumption) (h7 : sm z3 := by omega) (h8 : sm ((a3 + (Int.tdiv z3 2)) - z2) := by omega) : G Γ m_X0_tightnessBy Ret 0 0 9 [some (vR p0), some (vR p1), some (vI a2), some (vI a3), o4, o5] [] w := by
  refine G_iload_n dX0_tightnessBy_9 rfl ?_
  refine G_const dX0_tightnessBy_10 ?_
  refine G_iadd dX0_tightnessBy_11 ?_
  refine G_const dX0_tightnessBy_12 ?_
  refine G_irem dX0_tightnessBy_13 h1 (by decide) (by decide) (by decide) ?_
  refine G_istore dX0_tightnessBy_14 (by decide) rfl ?_
  refine G_aload_n dX0_tightnessBy_16 rfl ?_
  refine G_getI dX0_tightnessBy_17 fl_RX0_79 h2 rfl ?_
  refine G_aload_n dX0_tightnessBy_20 rfl ?_
  refine G_getI dX0_tightnessBy_21 fl_RX0_82 h2 rfl ?_
  refine G_aload_n dX0_tightnessBy_24 rfl ?_
  refine G_getI dX0_tightnessBy_25 fl_RX0_36 h3 rfl ?_
  refine G_SP (as := [vI (wI w p0 5)]) (st := [vI (wI w p1 12), vI (wI w p1 11)]) n0_J6_bitCount_0f7a4 dX0_tightnessBy_28 ml_RX0_85 mc_J6_bitCount_0f7a4 rfl ⟨by decide, ⟨Nat.le_of_ble_eq_true rfl, Nat.le_of_ble_eq_true rfl⟩, Nat.le_of_ble_eq_true rfl⟩ c4 ?_
  refine G_SP (as := [vI (wI w p1 11), vI (wI w p1 12), vI z1]) (st := []) n0_X6_slackOf dX0_tightnessBy_31 ml_RX0_90 mc_X6_slackOf rfl ⟨by decide, ⟨Nat.le_of_ble_eq_true rfl, Nat.le_of_ble_eq_true rfl⟩, Nat.le_of_ble_eq_true rfl⟩ c5 ?_
  refine G_istore dX0_tightnessBy_34 (by decide) rfl ?_
  refine G_const dX0_tightnessBy_36 ?_
  refine G_iload_n dX0_tightnessBy_37 rfl ?_
  refine G_aload_n dX0_tightnessBy_38 rfl ?_
  refine G_iload dX0_tightnessBy_39 rfl ?_
  refine G_VP (as := [vI (Int.tmod (a2 + 2) 4)]) (st := [vI a3, vI 0]) n0_X0_tightness dX0_tightnessBy_41 ml_RX0_76 mc_X0_tightness rfl ⟨by decide, ⟨Nat.le_of_ble_eq_true rfl, Nat.le_of_ble_eq_true rfl⟩, Nat.le_of_ble_eq_true rfl⟩ h3 ⟨_, _, rfl⟩ c6 ?_
  refine G_const dX0_tightnessBy_44 ?_
  refine G_idiv dX0_tightnessBy_45 h7 (by decide) (by decide) (by decide) ?_
  refine G_iadd dX0_tightnessBy_46 ?_
  refine G_iload dX0_tightnessBy_47 rfl ?_
  refine G_isub dX0_tightnessBy_49 ?_
  refine G_mmax dX0_tightnessBy_50 tb_545 tb_179 tb_44 tb_180 (by decide) h8 ⟨Nat.le_of_ble_eq_true rfl, Nat.le_of_ble_eq_true rfl⟩ ⟨Nat.le_of_ble_eq_true rfl, Nat.le_of_ble_eq_true rfl⟩ ?_
  exact G_reti dX0_tightnessBy_53 trivial ⟨rfl, Nat.le_of_ble_eq_true rfl⟩ kr
theorem k_X0_tightnessBy_7 {Γ : Gm} {Ret : Option Value → Wd → Prop} {o0 o1 o2 o3 o4 o5 : Option Value} {w : Wd} (kr : Ret (some (vI 2)) w) : G Γ m_X0_tightnessBy Ret 0 0 7 [o0, o1, o2, o3, o4, o5] [] w := by
  refine G_const dX0_tightnessBy_7 ?_
  exact G_reti dX0_tightnessBy_8 trivial ⟨rfl, Nat.le_of_ble_eq_true rfl⟩ kr
theorem k_X0_leastKick_0 {Γ : Gm} {Ret : Option Value → Wd → Prop} {a2 a3 : Int} {p0 p1 : Nat} {w : Wd} (km : G Γ m_X0_leastKick Ret 0 0 3 [some (vR p0), some (vR p1), some (vI a2), some (vI a3), some (vI 0), none] [] w) : G Γ m_X0_leastKick Ret 0 0 0 [some (vR p0), some (vR p1), some (vI a2), some (vI a3), none, none] [] w := by
  refine G_const dX0_leastKick_0 ?_
  refine G_istore dX0_leastKick_1 (by decide) rfl ?_
  exact km
theorem k_X0_leastKick_3 {Γ : Gm} {Ret : Option Value → Wd → Prop} {a2 a3 a4 : Int} {p0 p1 : Nat} {o5 : Option Value} {w : Wd} (kt : 20 < a4 → G Γ m_X0_leastKick Ret 0 0 44 [some (vR p0), some (vR p1), some (vI a2), some (vI a3), some (vI a4), o5] [] w) (kf : ¬ (20 < a4) → G Γ m_X0_leastKick Ret 0 0 10 [some (vR p0), some (vR p1), some (vI a2), some (vI a3), some (vI a4), o5] [] w) (h1 : sm a4 := by omega) : G Γ m_X0_leastKick Ret 0 0 3 [some (vR p0), some (vR p1), some (vI a2), some (vI a3), some (vI a4), o5] [] w := by
  refine G_iload dX0_leastKick_3 rfl ?_
  refine G_bipush dX0_leastKick_5 (by decide +kernel) ?_
  exact G_icmp_gt dX0_leastKick_7 (by decide) h1 (by decide) kt kf
theorem k_X0_leastKick_44 {Γ : Gm} {Ret : Option Value → Wd → Prop} {o0 o1 o2 o3 o4 o5 : Option Value} {w : Wd} (kr : Ret (some (vI (-4))) w) : G Γ m_X0_leastKick Ret 0 0 44 [o0, o1, o2, o3, o4, o5] [] w := by
  refine G_bipush dX0_leastKick_44 (by decide +kernel) ?_
  exact G_reti dX0_leastKick_46 trivial ⟨rfl, Nat.le_of_ble_eq_true rfl⟩ kr
theorem k_X0_leastKick_10 {Γ : Gm} {Ret : Option Value → Wd → Prop} {a2 a3 a4 z1 : Int} {p0 p1 : Nat} {o5 : Option Value} {w : Wd} (c2 : SpP Γ m_X0_tightnessBy [vR p0, vR p1, vI a2, vI a4] w z1) (kt : z1 < a3 → G Γ m_X0_leastKick Ret 0 0 38 [some (vR p0), some (vR p1), some (vI a2), some (vI a3), some (vI a4), some (vI z1)] [] w) (kf : ¬ (z1 < a3) → G Γ m_X0_leastKick Ret 0 0 26 [some (vR p0), some (vR p1), some (vI a2), some (vI a3), some (vI a4), some (vI z1)] [] w) (h1 : sh w p0 = some (.inr 0) := by assumption) (h3 : sm z1 := by omega) (h4 : sm a3 := by omega) : G Γ m_X0_leastKick Ret 0 0 10 [some (vR p0), some (vR p1), some (vI a2), some (vI a3), some (vI a4), o5] [] w := by
  refine G_aload_n dX0_leastKick_10 rfl ?_
  refine G_aload_n dX0_leastKick_11 rfl ?_
  refine G_iload_n dX0_leastKick_12 rfl ?_
  refine G_iload dX0_leastKick_13 rfl ?_
  refine G_VP (as := [vR p1, vI a2, vI a4]) (st := []) n0_X0_tightnessBy dX0_leastKick_15 ml_RX0_99 mc_X0_tightnessBy rfl ⟨by decide, ⟨Nat.le_of_ble_eq_true rfl, Nat.le_of_ble_eq_true rfl⟩, Nat.le_of_ble_eq_true rfl⟩ h1 ⟨_, _, rfl⟩ c2 ?_
  refine G_istore dX0_leastKick_18 (by decide) rfl ?_
  refine G_iload dX0_leastKick_20 rfl ?_
  refine G_iload_n dX0_leastKick_22 rfl ?_
  exact G_icmp_lt dX0_leastKick_23 (by decide) h3 h4 kt kf
theorem k_X0_leastKick_38 {Γ : Gm} {Ret : Option Value → Wd → Prop} {a2 a3 a4 : Int} {p0 p1 : Nat} {o5 : Option Value} {w : Wd} (km : G Γ m_X0_leastKick Ret 0 0 3 [some (vR p0), some (vR p1), some (vI a2), some (vI a3), some (vI (a4 + 1)), o5] [] w) : G Γ m_X0_leastKick Ret 0 0 38 [some (vR p0), some (vR p1), some (vI a2), some (vI a3), some (vI a4), o5] [] w := by
  refine G_iinc dX0_leastKick_38 (by decide) rfl rfl ?_
  refine G_goto dX0_leastKick_41 (tgt := 3) (by decide) ?_
  exact km
theorem k_X0_leastKick_26 {Γ : Gm} {Ret : Option Value → Wd → Prop} {a2 a3 a4 a5 : Int} {p0 p1 : Nat} {w : Wd} (kt : (wI w p1 10) < a5 → G Γ m_X0_leastKick Ret 0 0 38 [some (vR p0), some (vR p1), some (vI a2), some (vI a3), some (vI a4), some (vI a5)] [] w) (kf : ¬ ((wI w p1 10) < a5) → G Γ m_X0_leastKick Ret 0 0 35 [some (vR p0), some (vR p1), some (vI a2), some (vI a3), some (vI a4), some (vI a5)] [] w) (h1 : sh w p1 = some (.inr 3) := by assumption) (h2 : sm a5 := by omega) (h3 : sm (wI w p1 10) := by omega) : G Γ m_X0_leastKick Ret 0 0 26 [some (vR p0), some (vR p1), some (vI a2), some (vI a3), some (vI a4), some (vI a5)] [] w := by
  refine G_iload dX0_leastKick_26 rfl ?_
  refine G_aload_n dX0_leastKick_28 rfl ?_
  refine G_getI dX0_leastKick_29 fl_RX0_103 h1 rfl ?_
  exact G_icmp_gt dX0_leastKick_32 (by decide) h2 h3 kt kf
theorem k_X0_leastKick_35 {Γ : Gm} {Ret : Option Value → Wd → Prop} {a4 : Int} {o0 o1 o2 o3 o5 : Option Value} {w : Wd} (kr : Ret (some (vI a4)) w) : G Γ m_X0_leastKick Ret 0 0 35 [o0, o1, o2, o3, some (vI a4), o5] [] w := by
  refine G_iload dX0_leastKick_35 rfl ?_
  exact G_reti dX0_leastKick_37 trivial ⟨rfl, Nat.le_of_ble_eq_true rfl⟩ kr
theorem k_X0_hookOn_0 {Γ : Gm} {Ret : Option Value → Wd → Prop} {a2 a3 z1 : Int} {p0 p1 : Nat} {w : Wd} (c2 : SpP Γ m_X0_tightnessBy [vR p0, vR p1, vI a2, vI a3] w z1) (kt : z1 ≤ (wI w p1 10) → G Γ m_X0_hookOn Ret 0 0 32 [some (vR p0), some (vR p1), some (vI a2), some (vI a3), some (vI z1)] [] w) (kf : ¬ (z1 ≤ (wI w p1 10)) → G Γ m_X0_hookOn Ret 0 0 18 [some (vR p0), some (vR p1), some (vI a2), some (vI a3), some (vI z1)] [] w) (h1 : sh w p0 = some (.inr 0) := by assumption) (h3 : sh w p1 = some (.inr 3) := by assumption) (h4 : sm z1 := by omega) (h5 : sm (wI w p1 10) := by omega) : G Γ m_X0_hookOn Ret 0 0 0 [some (vR p0), some (vR p1), some (vI a2), some (vI a3), none] [] w := by
  refine G_aload_n dX0_hookOn_0 rfl ?_
  refine G_aload_n dX0_hookOn_1 rfl ?_
  refine G_iload_n dX0_hookOn_2 rfl ?_
  refine G_iload_n dX0_hookOn_3 rfl ?_
  refine G_VP (as := [vR p1, vI a2, vI a3]) (st := []) n0_X0_tightnessBy dX0_hookOn_4 ml_RX0_99 mc_X0_tightnessBy rfl ⟨by decide, ⟨Nat.le_of_ble_eq_true rfl, Nat.le_of_ble_eq_true rfl⟩, Nat.le_of_ble_eq_true rfl⟩ h1 ⟨_, _, rfl⟩ c2 ?_
  refine G_istore dX0_hookOn_7 (by decide) rfl ?_
  refine G_iload dX0_hookOn_9 rfl ?_
  refine G_aload_n dX0_hookOn_11 rfl ?_
  refine G_getI dX0_hookOn_12 fl_RX0_103 h3 rfl ?_
  exact G_icmp_le dX0_hookOn_15 (by decide) h4 h5 kt kf
theorem k_X0_hookOn_32 {Γ : Gm} {Ret : Option Value → Wd → Prop} {a2 a4 : Int} {p0 q1 : Nat} {o1 o3 : Option Value} {w : Wd} {Q : Wd → Prop} (c3 : SpV Γ m_X6_put [vR q1, vI a2, vI a4] (stI w p0 5 (zor (wI w p0 5) (zshl 1 a2))) Q) (kq : ∀ u : Wd, Q u → G Γ m_X0_hookOn Ret 0 0 54 [some (vR p0), o1, some (vI a2), o3, some (vI a4)] [] u) (h1 : sh w p0 = some (.inr 0) := by assumption) (h2 : wR w p0 1 = vR q1 := by assumption) : G Γ m_X0_hookOn Ret 0 0 32 [some (vR p0), o1, some (vI a2), o3, some (vI a4)] [] w := by
  refine G_aload_n dX0_hookOn_32 rfl ?_
  refine G_dup dX0_hookOn_33 rfl ?_
  refine G_getI dX0_hookOn_34 fl_RX0_36 h1 rfl ?_
  refine G_const dX0_hookOn_37 ?_
  refine G_iload_n dX0_hookOn_38 rfl ?_
  refine G_ishl dX0_hookOn_39 ?_
  refine G_ior dX0_hookOn_40 ?_
  refine G_putI dX0_hookOn_41 fl_RX0_36 h1 rfl ?_
  refine G_aload_n dX0_hookOn_44 rfl ?_
  refine G_getR dX0_hookOn_45 fl_RX0_15 h1 rfl h2 ?_
  refine G_iload_n dX0_hookOn_48 rfl ?_
  refine G_iload dX0_hookOn_49 rfl ?_
  exact G_SV (as := [vR q1, vI a2, vI a4]) (st := []) n0_X6_put dX0_hookOn_51 ml_RX0_22 mc_X6_put rfl ⟨by decide, ⟨Nat.le_of_ble_eq_true rfl, Nat.le_of_ble_eq_true rfl⟩, Nat.le_of_ble_eq_true rfl⟩ c3 (fun u hq => kq u hq)
theorem k_X0_hookOn_18 {Γ : Gm} {Ret : Option Value → Wd → Prop} {a2 : Int} {p0 : Nat} {o1 o3 o4 : Option Value} {w : Wd} (kr : Ret (some (vI 0)) (stI w p0 6 (zor (wI w p0 6) (zshl 1 a2)))) (h1 : sh w p0 = some (.inr 0) := by assumption) : G Γ m_X0_hookOn Ret 0 0 18 [some (vR p0), o1, some (vI a2), o3, o4] [] w := by
  refine G_aload_n dX0_hookOn_18 rfl ?_
  refine G_dup dX0_hookOn_19 rfl ?_
  refine G_getI dX0_hookOn_20 fl_RX0_39 h1 rfl ?_
  refine G_const dX0_hookOn_23 ?_
  refine G_iload_n dX0_hookOn_24 rfl ?_
  refine G_ishl dX0_hookOn_25 ?_
  refine G_ior dX0_hookOn_26 ?_
  refine G_putI dX0_hookOn_27 fl_RX0_39 h1 rfl ?_
  refine G_const dX0_hookOn_30 ?_
  exact G_reti dX0_hookOn_31 trivial ⟨rfl, Nat.le_of_ble_eq_true rfl⟩ kr
theorem k_X0_hookOn_54 {Γ : Gm} {Ret : Option Value → Wd → Prop} {a4 : Int} {o0 o1 o2 o3 : Option Value} {w : Wd} (kr : Ret (some (vI a4)) w) : G Γ m_X0_hookOn Ret 0 0 54 [o0, o1, o2, o3, some (vI a4)] [] w := by
  refine G_iload dX0_hookOn_54 rfl ?_
  exact G_reti dX0_hookOn_56 trivial ⟨rfl, Nat.le_of_ble_eq_true rfl⟩ kr
theorem k_X0_unhook_0 {Γ : Gm} {Ret : Option Value → Wd → Prop} {a1 z1 : Int} {p0 q2 : Nat} {w : Wd} {Q : Wd → Prop} (c2 : SpP Γ m_X0_tightness [vR p0, vI a1] w z1) (c4 : SpV Γ m_X6_put [vR q2, vI a1, vI 0] (stI w p0 5 (zand (wI w p0 5) (zxor (zshl 1 a1) (-1)))) Q) (kq : ∀ u : Wd, Q u → G Γ m_X0_unhook Ret 0 0 29 [some (vR p0), some (vI a1), some (vI z1)] [] u) (h1 : sh w p0 = some (.inr 0) := by assumption) (h3 : wR w p0 1 = vR q2 := by assumption) : G Γ m_X0_unhook Ret 0 0 0 [some (vR p0), some (vI a1), none] [] w := by
  refine G_aload_n dX0_unhook_0 rfl ?_
  refine G_iload_n dX0_unhook_1 rfl ?_
  refine G_VP (as := [vI a1]) (st := []) n0_X0_tightness dX0_unhook_2 ml_RX0_76 mc_X0_tightness rfl ⟨by decide, ⟨Nat.le_of_ble_eq_true rfl, Nat.le_of_ble_eq_true rfl⟩, Nat.le_of_ble_eq_true rfl⟩ h1 ⟨_, _, rfl⟩ c2 ?_
  refine G_istore_n dX0_unhook_5 (by decide) rfl ?_
  refine G_aload_n dX0_unhook_6 rfl ?_
  refine G_dup dX0_unhook_7 rfl ?_
  refine G_getI dX0_unhook_8 fl_RX0_36 h1 rfl ?_
  refine G_const dX0_unhook_11 ?_
  refine G_iload_n dX0_unhook_12 rfl ?_
  refine G_ishl dX0_unhook_13 ?_
  refine G_const dX0_unhook_14 ?_
  refine G_ixor dX0_unhook_15 ?_
  refine G_iand dX0_unhook_16 ?_
  refine G_putI dX0_unhook_17 fl_RX0_36 h1 rfl ?_
  refine G_aload_n dX0_unhook_20 rfl ?_
  refine G_getR dX0_unhook_21 fl_RX0_15 h1 rfl h3 ?_
  refine G_iload_n dX0_unhook_24 rfl ?_
  refine G_const dX0_unhook_25 ?_
  exact G_SV (as := [vR q2, vI a1, vI 0]) (st := []) n0_X6_put dX0_unhook_26 ml_RX0_22 mc_X6_put rfl ⟨by decide, ⟨Nat.le_of_ble_eq_true rfl, Nat.le_of_ble_eq_true rfl⟩, Nat.le_of_ble_eq_true rfl⟩ c4 (fun u hq => kq u hq)
theorem k_X0_unhook_29 {Γ : Gm} {Ret : Option Value → Wd → Prop} {a2 : Int} {o0 o1 : Option Value} {w : Wd} (kr : Ret (some (vI a2)) w) : G Γ m_X0_unhook Ret 0 0 29 [o0, o1, some (vI a2)] [] w := by
  refine G_iload_n dX0_unhook_29 rfl ?_
  exact G_reti dX0_unhook_30 trivial ⟨rfl, Nat.le_of_ble_eq_true rfl⟩ kr
theorem k_X0_passMonth_0 {Γ : Gm} {Ret : Option Value → Wd → Prop} {z1 : Int} {p0 p1 : Nat} {w : Wd} (c3 : SpP Γ m_X3_slackeningIn [vR p1, vI (wI w p0 7)] w z1) (km : G Γ m_X0_passMonth Ret 0 0 11 [some (vR p0), some (vR p1), some (vI z1), some (vI 0)] [] w) (h1 : sh w p0 = some (.inr 0) := by assumption) (h2 : sh w p1 = some (.inr 3) := by assumption) : G Γ m_X0_passMonth Ret 0 0 0 [some (vR p0), some (vR p1), none, none] [] w := by
  refine G_aload_n dX0_passMonth_0 rfl ?_
  refine G_aload_n dX0_passMonth_1 rfl ?_
  refine G_getI dX0_passMonth_2 fl_RX0_42 h1 rfl ?_
  refine G_VP (as := [vI (wI w p0 7)]) (st := []) n0_X3_slackeningIn dX0_passMonth_5 ml_RX0_106 mc_X3_slackeningIn rfl ⟨by decide, ⟨Nat.le_of_ble_eq_true rfl, Nat.le_of_ble_eq_true rfl⟩, Nat.le_of_ble_eq_true rfl⟩ h2 ⟨_, _, rfl⟩ c3 ?_
  refine G_istore_n dX0_passMonth_8 (by decide) rfl ?_
  refine G_const dX0_passMonth_9 ?_
  refine G_istore_n dX0_passMonth_10 (by decide) rfl ?_
  exact km
theorem k_X0_passMonth_11 {Γ : Gm} {Ret : Option Value → Wd → Prop} {a2 a3 : Int} {p0 : Nat} {o1 : Option Value} {w : Wd} (kt : 4 ≤ a3 → G Γ m_X0_passMonth Ret 0 0 41 [some (vR p0), o1, some (vI a2), some (vI a3)] [] w) (kf : ¬ (4 ≤ a3) → G Γ m_X0_passMonth Ret 0 0 16 [some (vR p0), o1, some (vI a2), some (vI a3)] [] w) (h1 : sm a3 := by omega) : G Γ m_X0_passMonth Ret 0 0 11 [some (vR p0), o1, some (vI a2), some (vI a3)] [] w := by
  refine G_iload_n dX0_passMonth_11 rfl ?_
  refine G_const dX0_passMonth_12 ?_
  exact G_icmp_ge dX0_passMonth_13 (by decide) h1 (by decide) kt kf
theorem k_X0_passMonth_41 {Γ : Gm} {Ret : Option Value → Wd → Prop} {p0 : Nat} {o1 o2 o3 : Option Value} {w : Wd} (kr : Ret none (stI w p0 7 ((wI w p0 7) + 1))) (h1 : sh w p0 = some (.inr 0) := by assumption) : G Γ m_X0_passMonth Ret 0 0 41 [some (vR p0), o1, o2, o3] [] w := by
  refine G_aload_n dX0_passMonth_41 rfl ?_
  refine G_dup dX0_passMonth_42 rfl ?_
  refine G_getI dX0_passMonth_43 fl_RX0_42 h1 rfl ?_
  refine G_const dX0_passMonth_46 ?_
  refine G_iadd dX0_passMonth_47 ?_
  refine G_putI dX0_passMonth_48 fl_RX0_42 h1 rfl ?_
  exact G_retv dX0_passMonth_51 trivial ⟨rfl, Nat.le_of_ble_eq_true rfl⟩ kr
theorem k_X0_passMonth_16 {Γ : Gm} {Ret : Option Value → Wd → Prop} {a2 a3 z2 : Int} {p0 q1 : Nat} {o1 : Option Value} {w : Wd} {Q : Wd → Prop} (c3 : SpP Γ m_X0_tightness [vR p0, vI a3] w z2) (c5 : SpV Γ m_X6_put [vR q1, vI a3, vI (max 0 (z2 - a2))] w Q) (kq : ∀ u : Wd, Q u → G Γ m_X0_passMonth Ret 0 0 35 [some (vR p0), o1, some (vI a2), some (vI a3)] [] u) (h1 : sh w p0 = some (.inr 0) := by assumption) (h2 : wR w p0 1 = vR q1 := by assumption) (h4 : sm (z2 - a2) := by omega) : G Γ m_X0_passMonth Ret 0 0 16 [some (vR p0), o1, some (vI a2), some (vI a3)] [] w := by
  refine G_aload_n dX0_passMonth_16 rfl ?_
  refine G_getR dX0_passMonth_17 fl_RX0_15 h1 rfl h2 ?_
  refine G_iload_n dX0_passMonth_20 rfl ?_
  refine G_const dX0_passMonth_21 ?_
  refine G_aload_n dX0_passMonth_22 rfl ?_
  refine G_iload_n dX0_passMonth_23 rfl ?_
  refine G_VP (as := [vI a3]) (st := [vI 0, vI a3, vR q1]) n0_X0_tightness dX0_passMonth_24 ml_RX0_76 mc_X0_tightness rfl ⟨by decide, ⟨Nat.le_of_ble_eq_true rfl, Nat.le_of_ble_eq_true rfl⟩, Nat.le_of_ble_eq_true rfl⟩ h1 ⟨_, _, rfl⟩ c3 ?_
  refine G_iload_n dX0_passMonth_27 rfl ?_
  refine G_isub dX0_passMonth_28 ?_
  refine G_mmax dX0_passMonth_29 tb_545 tb_179 tb_44 tb_180 (by decide) h4 ⟨Nat.le_of_ble_eq_true rfl, Nat.le_of_ble_eq_true rfl⟩ ⟨Nat.le_of_ble_eq_true rfl, Nat.le_of_ble_eq_true rfl⟩ ?_
  exact G_SV (as := [vR q1, vI a3, vI (max 0 (z2 - a2))]) (st := []) n0_X6_put dX0_passMonth_32 ml_RX0_22 mc_X6_put rfl ⟨by decide, ⟨Nat.le_of_ble_eq_true rfl, Nat.le_of_ble_eq_true rfl⟩, Nat.le_of_ble_eq_true rfl⟩ c5 (fun u hq => kq u hq)
theorem k_X0_passMonth_35 {Γ : Gm} {Ret : Option Value → Wd → Prop} {a2 a3 : Int} {p0 : Nat} {o1 : Option Value} {w : Wd} (km : G Γ m_X0_passMonth Ret 0 0 11 [some (vR p0), o1, some (vI a2), some (vI (a3 + 1))] [] w) : G Γ m_X0_passMonth Ret 0 0 35 [some (vR p0), o1, some (vI a2), some (vI a3)] [] w := by
  refine G_iinc dX0_passMonth_35 (by decide) rfl rfl ?_
  refine G_goto dX0_passMonth_38 (tgt := 11) (by decide) ?_
  exact km
theorem k_X0_monthsToWave_0 {Γ : Gm} {Ret : Option Value → Wd → Prop} {a2 z1 : Int} {p0 p1 : Nat} {w : Wd} (c2 : SpP Γ m_X0_tightness [vR p0, vI a2] w z1) (km : G Γ m_X0_monthsToWave Ret 0 0 9 [some (vR p0), some (vR p1), some (vI a2), some (vI z1), some (vI 0)] [] w) (h1 : sh w p0 = some (.inr 0) := by assumption) : G Γ m_X0_monthsToWave Ret 0 0 0 [some (vR p0), some (vR p1), some (vI a2), none, none] [] w := by
  refine G_aload_n dX0_monthsToWave_0 rfl ?_
  refine G_iload_n dX0_monthsToWave_1 rfl ?_
  refine G_VP (as := [vI a2]) (st := []) n0_X0_tightness dX0_monthsToWave_2 ml_RX0_76 mc_X0_tightness rfl ⟨by decide, ⟨Nat.le_of_ble_eq_true rfl, Nat.le_of_ble_eq_true rfl⟩, Nat.le_of_ble_eq_true rfl⟩ h1 ⟨_, _, rfl⟩ c2 ?_
  refine G_istore_n dX0_monthsToWave_5 (by decide) rfl ?_
  refine G_const dX0_monthsToWave_6 ?_
  refine G_istore dX0_monthsToWave_7 (by decide) rfl ?_
  exact km
theorem k_X0_monthsToWave_9 {Γ : Gm} {Ret : Option Value → Wd → Prop} {a3 a4 : Int} {p0 p1 : Nat} {o2 : Option Value} {w : Wd} (kt : 60 < a4 → G Γ m_X0_monthsToWave Ret 0 0 44 [some (vR p0), some (vR p1), o2, some (vI a3), some (vI a4)] [] w) (kf : ¬ (60 < a4) → G Γ m_X0_monthsToWave Ret 0 0 16 [some (vR p0), some (vR p1), o2, some (vI a3), some (vI a4)] [] w) (h1 : sm a4 := by omega) : G Γ m_X0_monthsToWave Ret 0 0 9 [some (vR p0), some (vR p1), o2, some (vI a3), some (vI a4)] [] w := by
  refine G_iload dX0_monthsToWave_9 rfl ?_
  refine G_bipush dX0_monthsToWave_11 (by decide +kernel) ?_
  exact G_icmp_gt dX0_monthsToWave_13 (by decide) h1 (by decide) kt kf
theorem k_X0_monthsToWave_44 {Γ : Gm} {Ret : Option Value → Wd → Prop} {o0 o1 o2 o3 o4 : Option Value} {w : Wd} (kr : Ret (some (vI 61)) w) : G Γ m_X0_monthsToWave Ret 0 0 44 [o0, o1, o2, o3, o4] [] w := by
  refine G_bipush dX0_monthsToWave_44 (by decide +kernel) ?_
  exact G_reti dX0_monthsToWave_46 trivial ⟨rfl, Nat.le_of_ble_eq_true rfl⟩ kr
theorem k_X0_monthsToWave_16 {Γ : Gm} {Ret : Option Value → Wd → Prop} {a3 a4 : Int} {p0 p1 : Nat} {o2 : Option Value} {w : Wd} (kt : 2 ≤ a3 → G Γ m_X0_monthsToWave Ret 0 0 24 [some (vR p0), some (vR p1), o2, some (vI a3), some (vI a4)] [] w) (kf : ¬ (2 ≤ a3) → G Γ m_X0_monthsToWave Ret 0 0 21 [some (vR p0), some (vR p1), o2, some (vI a3), some (vI a4)] [] w) (h1 : sm a3 := by omega) : G Γ m_X0_monthsToWave Ret 0 0 16 [some (vR p0), some (vR p1), o2, some (vI a3), some (vI a4)] [] w := by
  refine G_iload_n dX0_monthsToWave_16 rfl ?_
  refine G_const dX0_monthsToWave_17 ?_
  exact G_icmp_ge dX0_monthsToWave_18 (by decide) h1 (by decide) kt kf
theorem k_X0_monthsToWave_24 {Γ : Gm} {Ret : Option Value → Wd → Prop} {a3 a4 z1 : Int} {p0 p1 : Nat} {o2 : Option Value} {w : Wd} (c3 : SpP Γ m_X3_slackeningIn [vR p1, vI ((wI w p0 7) + a4)] w z1) (km : G Γ m_X0_monthsToWave Ret 0 0 9 [some (vR p0), some (vR p1), o2, some (vI (a3 - z1)), some (vI (a4 + 1))] [] w) (h1 : sh w p0 = some (.inr 0) := by assumption) (h2 : sh w p1 = some (.inr 3) := by assumption) (h4 : nl1 [o2] 1 = true := by rfl) : G Γ m_X0_monthsToWave Ret 0 0 24 [some (vR p0), some (vR p1), o2, some (vI a3), some (vI a4)] [] w := by
  refine G_iload_n dX0_monthsToWave_24 rfl ?_
  refine G_aload_n dX0_monthsToWave_25 rfl ?_
  refine G_aload_n dX0_monthsToWave_26 rfl ?_
  refine G_getI dX0_monthsToWave_27 fl_RX0_42 h1 rfl ?_
  refine G_iload dX0_monthsToWave_30 rfl ?_
  refine G_iadd dX0_monthsToWave_32 ?_
  refine G_VP (as := [vI ((wI w p0 7) + a4)]) (st := [vI a3]) n0_X3_slackeningIn dX0_monthsToWave_33 ml_RX0_106 mc_X3_slackeningIn rfl ⟨by decide, ⟨Nat.le_of_ble_eq_true rfl, Nat.le_of_ble_eq_true rfl⟩, Nat.le_of_ble_eq_true rfl⟩ h2 ⟨_, _, rfl⟩ c3 ?_
  refine G_isub dX0_monthsToWave_36 ?_
  refine G_istore_n dX0_monthsToWave_37 (by decide) (by simpa [nl1] using h4) ?_
  refine G_iinc dX0_monthsToWave_38 (by decide) rfl rfl ?_
  refine G_goto dX0_monthsToWave_41 (tgt := 9) (by decide) ?_
  exact km
theorem k_X0_monthsToWave_21 {Γ : Gm} {Ret : Option Value → Wd → Prop} {a4 : Int} {o0 o1 o2 o3 : Option Value} {w : Wd} (kr : Ret (some (vI a4)) w) : G Γ m_X0_monthsToWave Ret 0 0 21 [o0, o1, o2, o3, some (vI a4)] [] w := by
  refine G_iload dX0_monthsToWave_21 rfl ?_
  exact G_reti dX0_monthsToWave_23 trivial ⟨rfl, Nat.le_of_ble_eq_true rfl⟩ kr
theorem k_X0_takeStep_0 {Γ : Gm} {Ret : Option Value → Wd → Prop} {a2 z1 : Int} {p0 p1 : Nat} {w : Wd} (c3 : SpP Γ m_X0_isHooked [vR p0, vI (Int.tmod a2 4)] w z1) (kt : z1 = 0 → G Γ m_X0_takeStep Ret 0 0 29 [some (vR p0), some (vR p1), some (vI a2), some (vI (Int.tmod a2 4))] [] w) (kf : ¬ (z1 = 0) → G Γ m_X0_takeStep Ret 0 0 12 [some (vR p0), some (vR p1), some (vI a2), some (vI (Int.tmod a2 4))] [] w) (h1 : sm a2 := by omega) (h2 : sh w p0 = some (.inr 0) := by assumption) (h4 : sm z1 := by omega) : G Γ m_X0_takeStep Ret 0 0 0 [some (vR p0), some (vR p1), some (vI a2), none] [] w := by
  refine G_iload_n dX0_takeStep_0 rfl ?_
  refine G_const dX0_takeStep_1 ?_
  refine G_irem dX0_takeStep_2 h1 (by decide) (by decide) (by decide) ?_
  refine G_istore_n dX0_takeStep_3 (by decide) rfl ?_
  refine G_aload_n dX0_takeStep_4 rfl ?_
  refine G_iload_n dX0_takeStep_5 rfl ?_
  refine G_VP (as := [vI (Int.tmod a2 4)]) (st := []) n0_X0_isHooked dX0_takeStep_6 ml_RX0_69 mc_X0_isHooked rfl ⟨by decide, ⟨Nat.le_of_ble_eq_true rfl, Nat.le_of_ble_eq_true rfl⟩, Nat.le_of_ble_eq_true rfl⟩ h2 ⟨_, _, rfl⟩ c3 ?_
  exact G_if_eq dX0_takeStep_9 (by decide) h4 kt kf
theorem k_X0_takeStep_29 {Γ : Gm} {Ret : Option Value → Wd → Prop} {a2 a3 z1 : Int} {p0 p1 : Nat} {w : Wd} (c2 : SpP Γ m_X0_isFree [vR p0, vI a3] w z1) (kt : z1 = 0 → G Γ m_X0_takeStep Ret 0 0 51 [some (vR p0), some (vR p1), some (vI a2), some (vI a3)] [] w) (kf : ¬ (z1 = 0) → G Γ m_X0_takeStep Ret 0 0 37 [some (vR p0), some (vR p1), some (vI a2), some (vI a3)] [] w) (h1 : sh w p0 = some (.inr 0) := by assumption) (h3 : sm z1 := by omega) : G Γ m_X0_takeStep Ret 0 0 29 [some (vR p0), some (vR p1), some (vI a2), some (vI a3)] [] w := by
  refine G_aload_n dX0_takeStep_29 rfl ?_
  refine G_iload_n dX0_takeStep_30 rfl ?_
  refine G_VP (as := [vI a3]) (st := []) n0_X0_isFree dX0_takeStep_31 ml_RX0_112 mc_X0_isFree rfl ⟨by decide, ⟨Nat.le_of_ble_eq_true rfl, Nat.le_of_ble_eq_true rfl⟩, Nat.le_of_ble_eq_true rfl⟩ h1 ⟨_, _, rfl⟩ c2 ?_
  exact G_if_eq dX0_takeStep_34 (by decide) h3 kt kf
theorem k_X0_takeStep_12 {Γ : Gm} {Ret : Option Value → Wd → Prop} {a2 a3 : Int} {p0 p1 : Nat} {w : Wd} (kt : (Int.tmod (Int.tdiv a2 4) 5) ≠ 0 → G Γ m_X0_takeStep Ret 0 0 51 [some (vR p0), some (vR p1), some (vI a2), some (vI a3)] [] w) (kf : (Int.tmod (Int.tdiv a2 4) 5) = 0 → G Γ m_X0_takeStep Ret 0 0 20 [some (vR p0), some (vR p1), some (vI a2), some (vI a3)] [] w) (h1 : sm a2 := by omega) (h2 : sm (Int.tdiv a2 4) := by omega) (h3 : sm (Int.tmod (Int.tdiv a2 4) 5) := by omega) : G Γ m_X0_takeStep Ret 0 0 12 [some (vR p0), some (vR p1), some (vI a2), some (vI a3)] [] w := by
  refine G_iload_n dX0_takeStep_12 rfl ?_
  refine G_const dX0_takeStep_13 ?_
  refine G_idiv dX0_takeStep_14 h1 (by decide) (by decide) (by decide) ?_
  refine G_const dX0_takeStep_15 ?_
  refine G_irem dX0_takeStep_16 h2 (by decide) (by decide) (by decide) ?_
  exact G_if_ne dX0_takeStep_17 (by decide) h3 kt kf
theorem k_X0_takeStep_51 {Γ : Gm} {Ret : Option Value → Wd → Prop} {a2 : Int} {p0 p1 : Nat} {o3 : Option Value} {w : Wd} (kt : (Int.tmod (Int.tdiv a2 512) 3) ≠ 0 → G Γ m_X0_takeStep Ret 0 0 66 [some (vR p0), some (vR p1), some (vI a2), o3] [] w) (kf : (Int.tmod (Int.tdiv a2 512) 3) = 0 → G Γ m_X0_takeStep Ret 0 0 61 [some (vR p0), some (vR p1), some (vI a2), o3] [] w) (h1 : sm a2 := by omega) (h2 : sm (Int.tdiv a2 512) := by omega) (h3 : sm (Int.tmod (Int.tdiv a2 512) 3) := by omega) : G Γ m_X0_takeStep Ret 0 0 51 [some (vR p0), some (vR p1), some (vI a2), o3] [] w := by
  refine G_iload_n dX0_takeStep_51 rfl ?_
  refine G_sipush dX0_takeStep_52 (by decide +kernel) ?_
  refine G_idiv dX0_takeStep_55 h1 (by decide) (by decide) (by decide) ?_
  refine G_const dX0_takeStep_56 ?_
  refine G_irem dX0_takeStep_57 h2 (by decide) (by decide) (by decide) ?_
  exact G_if_ne dX0_takeStep_58 (by decide) h3 kt kf
theorem k_X0_takeStep_37 {Γ : Gm} {Ret : Option Value → Wd → Prop} {a2 a3 : Int} {p0 p1 : Nat} {w : Wd} {Q : Int → Wd → Prop} (c4 : SpI Γ m_X0_hookOn [vR p0, vR p1, vI a3, vI (Int.tmod (Int.tdiv a2 32) 16)] w Q) (kq : ∀ (z : Int) (u : Wd), Q z u → G Γ m_X0_takeStep Ret 0 0 50 [some (vR p0), some (vR p1), some (vI a2), some (vI a3)] [vI z] u) (h1 : sm a2 := by omega) (h2 : sm (Int.tdiv a2 32) := by omega) (h3 : sh w p0 = some (.inr 0) := by assumption) : G Γ m_X0_takeStep Ret 0 0 37 [some (vR p0), some (vR p1), some (vI a2), some (vI a3)] [] w := by
  refine G_aload_n dX0_takeStep_37 rfl ?_
  refine G_aload_n dX0_takeStep_38 rfl ?_
  refine G_iload_n dX0_takeStep_39 rfl ?_
  refine G_iload_n dX0_takeStep_40 rfl ?_
  refine G_bipush dX0_takeStep_41 (by decide +kernel) ?_
  refine G_idiv dX0_takeStep_43 h1 (by decide) (by decide) (by decide) ?_
  refine G_bipush dX0_takeStep_44 (by decide +kernel) ?_
  refine G_irem dX0_takeStep_46 h2 (by decide) (by decide) (by decide) ?_
  exact G_VI (as := [vR p1, vI a3, vI (Int.tmod (Int.tdiv a2 32) 16)]) (st := []) n0_X0_hookOn dX0_takeStep_47 ml_RX0_115 mc_X0_hookOn rfl ⟨by decide, ⟨Nat.le_of_ble_eq_true rfl, Nat.le_of_ble_eq_true rfl⟩, Nat.le_of_ble_eq_true rfl⟩ h3 ⟨_, _, rfl⟩ c4 (fun z u hq => kq z u hq)
theorem k_X0_takeStep_20 {Γ : Gm} {Ret : Option Value → Wd → Prop} {a2 a3 : Int} {p0 p1 : Nat} {w : Wd} {Q : Int → Wd → Prop} (c2 : SpI Γ m_X0_unhook [vR p0, vI a3] w Q) (kq : ∀ (z : Int) (u : Wd), Q z u → G Γ m_X0_takeStep Ret 0 0 25 [some (vR p0), some (vR p1), some (vI a2), some (vI a3)] [vI z] u) (h1 : sh w p0 = some (.inr 0) := by assumption) : G Γ m_X0_takeStep Ret 0 0 20 [some (vR p0), some (vR p1), some (vI a2), some (vI a3)] [] w := by
  refine G_aload_n dX0_takeStep_20 rfl ?_
  refine G_iload_n dX0_takeStep_21 rfl ?_
  exact G_VI (as := [vI a3]) (st := []) n0_X0_unhook dX0_takeStep_22 ml_RX0_109 mc_X0_unhook rfl ⟨by decide, ⟨Nat.le_of_ble_eq_true rfl, Nat.le_of_ble_eq_true rfl⟩, Nat.le_of_ble_eq_true rfl⟩ h1 ⟨_, _, rfl⟩ c2 (fun z u hq => kq z u hq)
theorem k_X0_takeStep_66 {Γ : Gm} {Ret : Option Value → Wd → Prop} {o0 o1 o2 o3 : Option Value} {w : Wd} (kr : Ret none w) : G Γ m_X0_takeStep Ret 0 0 66 [o0, o1, o2, o3] [] w := by
  exact G_retv dX0_takeStep_66 trivial ⟨rfl, Nat.le_of_ble_eq_true rfl⟩ kr
theorem k_X0_takeStep_61 {Γ : Gm} {Ret : Option Value → Wd → Prop} {p0 p1 : Nat} {o2 o3 : Option Value} {w : Wd} {Q : Wd → Prop} (c2 : SpV Γ m_X0_passMonth [vR p0, vR p1] w Q) (kq : ∀ u : Wd, Q u → G Γ m_X0_takeStep Ret 0 0 66 [some (vR p0), some (vR p1), o2, o3] [] u) (h1 : sh w p0 = some (.inr 0) := by assumption) : G Γ m_X0_takeStep Ret 0 0 61 [some (vR p0), some (vR p1), o2, o3] [] w := by
  refine G_aload_n dX0_takeStep_61 rfl ?_
  refine G_aload_n dX0_takeStep_62 rfl ?_
  exact G_VV (as := [vR p1]) (st := []) n0_X0_passMonth dX0_takeStep_63 ml_RX0_118 mc_X0_passMonth rfl ⟨by decide, ⟨Nat.le_of_ble_eq_true rfl, Nat.le_of_ble_eq_true rfl⟩, Nat.le_of_ble_eq_true rfl⟩ h1 ⟨_, _, rfl⟩ c2 (fun u hq => kq u hq)
theorem k_X0_takeStep_50 {Γ : Gm} {Ret : Option Value → Wd → Prop} {a2 s0 : Int} {p0 p1 : Nat} {o3 : Option Value} {w : Wd} (kt : (Int.tmod (Int.tdiv a2 512) 3) ≠ 0 → G Γ m_X0_takeStep Ret 0 0 66 [some (vR p0), some (vR p1), some (vI a2), o3] [] w) (kf : (Int.tmod (Int.tdiv a2 512) 3) = 0 → G Γ m_X0_takeStep Ret 0 0 61 [some (vR p0), some (vR p1), some (vI a2), o3] [] w) (h1 : sm a2 := by omega) (h2 : sm (Int.tdiv a2 512) := by omega) (h3 : sm (Int.tmod (Int.tdiv a2 512) 3) := by omega) : G Γ m_X0_takeStep Ret 0 0 50 [some (vR p0), some (vR p1), some (vI a2), o3] [vI s0] w := by
  refine G_pop dX0_takeStep_50 rfl ?_
  refine G_iload_n dX0_takeStep_51 rfl ?_
  refine G_sipush dX0_takeStep_52 (by decide +kernel) ?_
  refine G_idiv dX0_takeStep_55 h1 (by decide) (by decide) (by decide) ?_
  refine G_const dX0_takeStep_56 ?_
  refine G_irem dX0_takeStep_57 h2 (by decide) (by decide) (by decide) ?_
  exact G_if_ne dX0_takeStep_58 (by decide) h3 kt kf
theorem k_X0_takeStep_25 {Γ : Gm} {Ret : Option Value → Wd → Prop} {a2 s0 : Int} {p0 p1 : Nat} {o3 : Option Value} {w : Wd} (kt : (Int.tmod (Int.tdiv a2 512) 3) ≠ 0 → G Γ m_X0_takeStep Ret 0 0 66 [some (vR p0), some (vR p1), some (vI a2), o3] [] w) (kf : (Int.tmod (Int.tdiv a2 512) 3) = 0 → G Γ m_X0_takeStep Ret 0 0 61 [some (vR p0), some (vR p1), some (vI a2), o3] [] w) (h1 : sm a2 := by omega) (h2 : sm (Int.tdiv a2 512) := by omega) (h3 : sm (Int.tmod (Int.tdiv a2 512) 3) := by omega) : G Γ m_X0_takeStep Ret 0 0 25 [some (vR p0), some (vR p1), some (vI a2), o3] [vI s0] w := by
  refine G_pop dX0_takeStep_25 rfl ?_
  refine G_goto dX0_takeStep_26 (tgt := 51) (by decide) ?_
  refine G_iload_n dX0_takeStep_51 rfl ?_
  refine G_sipush dX0_takeStep_52 (by decide +kernel) ?_
  refine G_idiv dX0_takeStep_55 h1 (by decide) (by decide) (by decide) ?_
  refine G_const dX0_takeStep_56 ?_
  refine G_irem dX0_takeStep_57 h2 (by decide) (by decide) (by decide) ?_
  exact G_if_ne dX0_takeStep_58 (by decide) h3 kt kf
theorem k_J6_bitCount_0f7a4_0 {Γ : Gm} {Ret : Option Value → Wd → Prop} {a0 : Int} {w : Wd} (kr : Ret (some (vI (zand (((zand (((zand (a0 - (zand (zushr a0 1) 1431655765)) 858993459) + (zand (zushr (a0 - (zand (zushr a0 1) 1431655765)) 2) 858993459)) + (zushr ((zand (a0 - (zand (zushr a0 1) 1431655765)) 858993459) + (zand (zushr (a0 - (zand (zushr a0 1) 1431655765)) 2) 858993459)) 4)) 252645135) + (zushr (zand (((zand (a0 - (zand (zushr a0 1) 1431655765)) 858993459) + (zand (zushr (a0 - (zand (zushr a0 1) 1431655765)) 2) 858993459)) + (zushr ((zand (a0 - (zand (zushr a0 1) 1431655765)) 858993459) + (zand (zushr (a0 - (zand (zushr a0 1) 1431655765)) 2) 858993459)) 4)) 252645135) 8)) + (zushr ((zand (((zand (a0 - (zand (zushr a0 1) 1431655765)) 858993459) + (zand (zushr (a0 - (zand (zushr a0 1) 1431655765)) 2) 858993459)) + (zushr ((zand (a0 - (zand (zushr a0 1) 1431655765)) 858993459) + (zand (zushr (a0 - (zand (zushr a0 1) 1431655765)) 2) 858993459)) 4)) 252645135) + (zushr (zand (((zand (a0 - (zand (zushr a0 1) 1431655765)) 858993459) + (zand (zushr (a0 - (zand (zushr a0 1) 1431655765)) 2) 858993459)) + (zushr ((zand (a0 - (zand (zushr a0 1) 1431655765)) 858993459) + (zand (zushr (a0 - (zand (zushr a0 1) 1431655765)) 2) 858993459)) 4)) 252645135) 8)) 16)) 63))) w) : G Γ m_J6_bitCount_0f7a4 Ret 0 0 0 [some (vI a0)] [] w := by
  refine G_iload_n dJ6_bitCount_0f7a4_0 rfl ?_
  refine G_iload_n dJ6_bitCount_0f7a4_1 rfl ?_
  refine G_const dJ6_bitCount_0f7a4_2 ?_
  refine G_iushr dJ6_bitCount_0f7a4_3 ?_
  refine G_ldcw (n := 1431655765) dJ6_bitCount_0f7a4_4 tb_539 ?_
  refine G_iand dJ6_bitCount_0f7a4_7 ?_
  refine G_isub dJ6_bitCount_0f7a4_8 ?_
  refine G_istore_n dJ6_bitCount_0f7a4_9 (by decide) rfl ?_
  refine G_iload_n dJ6_bitCount_0f7a4_10 rfl ?_
  refine G_ldcw (n := 858993459) dJ6_bitCount_0f7a4_11 tb_540 ?_
  refine G_iand dJ6_bitCount_0f7a4_14 ?_
  refine G_iload_n dJ6_bitCount_0f7a4_15 rfl ?_
  refine G_const dJ6_bitCount_0f7a4_16 ?_
  refine G_iushr dJ6_bitCount_0f7a4_17 ?_
  refine G_ldcw (n := 858993459) dJ6_bitCount_0f7a4_18 tb_540 ?_
  refine G_iand dJ6_bitCount_0f7a4_21 ?_
  refine G_iadd dJ6_bitCount_0f7a4_22 ?_
  refine G_istore_n dJ6_bitCount_0f7a4_23 (by decide) rfl ?_
  refine G_iload_n dJ6_bitCount_0f7a4_24 rfl ?_
  refine G_iload_n dJ6_bitCount_0f7a4_25 rfl ?_
  refine G_const dJ6_bitCount_0f7a4_26 ?_
  refine G_iushr dJ6_bitCount_0f7a4_27 ?_
  refine G_iadd dJ6_bitCount_0f7a4_28 ?_
  refine G_ldcw (n := 252645135) dJ6_bitCount_0f7a4_29 tb_541 ?_
  refine G_iand dJ6_bitCount_0f7a4_32 ?_
  refine G_istore_n dJ6_bitCount_0f7a4_33 (by decide) rfl ?_
  refine G_iload_n dJ6_bitCount_0f7a4_34 rfl ?_
  refine G_iload_n dJ6_bitCount_0f7a4_35 rfl ?_
  refine G_bipush dJ6_bitCount_0f7a4_36 (by decide +kernel) ?_
  refine G_iushr dJ6_bitCount_0f7a4_38 ?_
  refine G_iadd dJ6_bitCount_0f7a4_39 ?_
  refine G_istore_n dJ6_bitCount_0f7a4_40 (by decide) rfl ?_
  refine G_iload_n dJ6_bitCount_0f7a4_41 rfl ?_
  refine G_iload_n dJ6_bitCount_0f7a4_42 rfl ?_
  refine G_bipush dJ6_bitCount_0f7a4_43 (by decide +kernel) ?_
  refine G_iushr dJ6_bitCount_0f7a4_45 ?_
  refine G_iadd dJ6_bitCount_0f7a4_46 ?_
  refine G_istore_n dJ6_bitCount_0f7a4_47 (by decide) rfl ?_
  refine G_iload_n dJ6_bitCount_0f7a4_48 rfl ?_
  refine G_bipush dJ6_bitCount_0f7a4_49 (by decide +kernel) ?_
  refine G_iand dJ6_bitCount_0f7a4_51 ?_
  exact G_reti dJ6_bitCount_0f7a4_52 trivial ⟨rfl, Nat.le_of_ble_eq_true rfl⟩ kr
