theorem k_X7_note_0 {Γ : Gm} {Ret : Option Value → Wd → Prop} {p0 : Nat} {w : Wd} (kt : (wI w p0 17) ≠ 8 → G Γ m_X7_note Ret 0 0 36 [some (vR p0)] [] w) (kf : (wI w p0 17) = 8 → G Γ m_X7_note Ret 0 0 9 [some (vR p0)] [] w) (h1 : sh w p0 = some (.inr 7) := by assumption) (h2 : sm (wI w p0 17) := by omega) : G Γ m_X7_note Ret 0 0 0 [some (vR p0)] [] w := by
  refine G_aload_n dX7_note_0 rfl ?_
  refine G_getI dX7_note_1 fl_RX7_117 h1 rfl ?_
  refine G_bipush dX7_note_4 (by decide +kernel) ?_
  exact G_icmp_ne dX7_note_6 (by decide) h2 (by decide) kt kf
theorem k_X7_note_36 {Γ : Gm} {Ret : Option Value → Wd → Prop} {p0 q1 q2 : Nat} {w : Wd} {Q : Wd → Prop} (c4 : SpV Γ m_X7_bring [vR q1, vI 0, vR q2, vI (32 * (wI w p0 17)), vI 32] w Q) (kq : ∀ u : Wd, Q u → G Γ m_X7_note Ret 0 0 57 [some (vR p0)] [] u) (h1 : sh w p0 = some (.inr 7) := by assumption) (h2 : wR w p0 14 = vR q1 := by assumption) (h3 : wR w p0 16 = vR q2 := by assumption) : G Γ m_X7_note Ret 0 0 36 [some (vR p0)] [] w := by
  refine G_aload_n dX7_note_36 rfl ?_
  refine G_getR dX7_note_37 fl_RX7_31 h1 rfl h2 ?_
  refine G_const dX7_note_40 ?_
  refine G_aload_n dX7_note_41 rfl ?_
  refine G_getR dX7_note_42 fl_RX7_37 h1 rfl h3 ?_
  refine G_bipush dX7_note_45 (by decide +kernel) ?_
  refine G_aload_n dX7_note_47 rfl ?_
  refine G_getI dX7_note_48 fl_RX7_117 h1 rfl ?_
  refine G_imul dX7_note_51 ?_
  refine G_bipush dX7_note_52 (by decide +kernel) ?_
  exact G_SV (as := [vR q1, vI 0, vR q2, vI (32 * (wI w p0 17)), vI 32]) (st := []) n0_X7_bring dX7_note_54 ml_RX7_110 mc_X7_bring rfl ⟨by decide, ⟨Nat.le_of_ble_eq_true rfl, Nat.le_of_ble_eq_true rfl⟩, Nat.le_of_ble_eq_true rfl⟩ c4 (fun u hq => kq u hq)
theorem k_X7_note_9 {Γ : Gm} {Ret : Option Value → Wd → Prop} {p0 q1 : Nat} {w : Wd} {Q : Wd → Prop} (c3 : SpV Γ m_X7_bring [vR q1, vI 32, vR q1, vI 0, vI 224] w Q) (kq : ∀ u : Wd, Q u → G Γ m_X7_note Ret 0 0 26 [some (vR p0)] [] u) (h1 : sh w p0 = some (.inr 7) := by assumption) (h2 : wR w p0 16 = vR q1 := by assumption) : G Γ m_X7_note Ret 0 0 9 [some (vR p0)] [] w := by
  refine G_aload_n dX7_note_9 rfl ?_
  refine G_getR dX7_note_10 fl_RX7_37 h1 rfl h2 ?_
  refine G_bipush dX7_note_13 (by decide +kernel) ?_
  refine G_aload_n dX7_note_15 rfl ?_
  refine G_getR dX7_note_16 fl_RX7_37 h1 rfl h2 ?_
  refine G_const dX7_note_19 ?_
  refine G_sipush dX7_note_20 (by decide +kernel) ?_
  exact G_SV (as := [vR q1, vI 32, vR q1, vI 0, vI 224]) (st := []) n0_X7_bring dX7_note_23 ml_RX7_110 mc_X7_bring rfl ⟨by decide, ⟨Nat.le_of_ble_eq_true rfl, Nat.le_of_ble_eq_true rfl⟩, Nat.le_of_ble_eq_true rfl⟩ c3 (fun u hq => kq u hq)
theorem k_X7_note_57 {Γ : Gm} {Ret : Option Value → Wd → Prop} {p0 : Nat} {w : Wd} (kr : Ret none (stI w p0 17 ((wI w p0 17) + 1))) (h1 : sh w p0 = some (.inr 7) := by assumption) : G Γ m_X7_note Ret 0 0 57 [some (vR p0)] [] w := by
  refine G_aload_n dX7_note_57 rfl ?_
  refine G_dup dX7_note_58 rfl ?_
  refine G_getI dX7_note_59 fl_RX7_117 h1 rfl ?_
  refine G_const dX7_note_62 ?_
  refine G_iadd dX7_note_63 ?_
  refine G_putI dX7_note_64 fl_RX7_117 h1 rfl ?_
  exact G_retv dX7_note_67 trivial ⟨rfl, Nat.le_of_ble_eq_true rfl⟩ kr
theorem k_X7_note_26 {Γ : Gm} {Ret : Option Value → Wd → Prop} {p0 q1 q2 : Nat} {w : Wd} {Q : Wd → Prop} (c4 : SpV Γ m_X7_bring [vR q1, vI 0, vR q2, vI (32 * ((wI w p0 17) - 1)), vI 32] (stI w p0 17 ((wI w p0 17) - 1)) Q) (kq : ∀ u : Wd, Q u → G Γ m_X7_note Ret 0 0 57 [some (vR p0)] [] u) (h1 : sh w p0 = some (.inr 7) := by assumption) (h2 : wR w p0 14 = vR q1 := by assumption) (h3 : wR w p0 16 = vR q2 := by assumption) : G Γ m_X7_note Ret 0 0 26 [some (vR p0)] [] w := by
  refine G_aload_n dX7_note_26 rfl ?_
  refine G_dup dX7_note_27 rfl ?_
  refine G_getI dX7_note_28 fl_RX7_117 h1 rfl ?_
  refine G_const dX7_note_31 ?_
  refine G_isub dX7_note_32 ?_
  refine G_putI dX7_note_33 fl_RX7_117 h1 rfl ?_
  refine G_aload_n dX7_note_36 rfl ?_
  refine G_getR dX7_note_37 fl_RX7_31 h1 rfl h2 ?_
  refine G_const dX7_note_40 ?_
  refine G_aload_n dX7_note_41 rfl ?_
  refine G_getR dX7_note_42 fl_RX7_37 h1 rfl h3 ?_
  refine G_bipush dX7_note_45 (by decide +kernel) ?_
  refine G_aload_n dX7_note_47 rfl ?_
  refine G_getI dX7_note_48 fl_RX7_117 h1 rfl ?_
  rw [wI_hit]
  refine G_imul dX7_note_51 ?_
  refine G_bipush dX7_note_52 (by decide +kernel) ?_
  exact G_SV (as := [vR q1, vI 0, vR q2, vI (32 * ((wI w p0 17) - 1)), vI 32]) (st := []) n0_X7_bring dX7_note_54 ml_RX7_110 mc_X7_bring rfl ⟨by decide, ⟨Nat.le_of_ble_eq_true rfl, Nat.le_of_ble_eq_true rfl⟩, Nat.le_of_ble_eq_true rfl⟩ c4 (fun u hq => kq u hq)
theorem k_X7_longFor_0 {Γ : Gm} {Ret : Option Value → Wd → Prop} {a1 a2 : Int} {p0 : Nat} {w : Wd} (km : G Γ m_X7_longFor Ret 0 0 5 [some (vR p0), some (vI a1), some (vI a2), some (vI 0), some (vI a1)] [] w) : G Γ m_X7_longFor Ret 0 0 0 [some (vR p0), some (vI a1), some (vI a2), none, none] [] w := by
  refine G_const dX7_longFor_0 ?_
  refine G_istore_n dX7_longFor_1 (by decide) rfl ?_
  refine G_iload_n dX7_longFor_2 rfl ?_
  refine G_istore dX7_longFor_3 (by decide) rfl ?_
  exact km
theorem k_X7_longFor_5 {Γ : Gm} {Ret : Option Value → Wd → Prop} {a1 a2 a3 a4 : Int} {p0 : Nat} {w : Wd} (kt : (a1 + a2) ≤ a4 → G Γ m_X7_longFor Ret 0 0 46 [some (vR p0), some (vI a1), some (vI a2), some (vI a3), some (vI a4)] [] w) (kf : ¬ ((a1 + a2) ≤ a4) → G Γ m_X7_longFor Ret 0 0 13 [some (vR p0), some (vI a1), some (vI a2), some (vI a3), some (vI a4)] [] w) (h1 : sm a4 := by omega) (h2 : sm (a1 + a2) := by omega) : G Γ m_X7_longFor Ret 0 0 5 [some (vR p0), some (vI a1), some (vI a2), some (vI a3), some (vI a4)] [] w := by
  refine G_iload dX7_longFor_5 rfl ?_
  refine G_iload_n dX7_longFor_7 rfl ?_
  refine G_iload_n dX7_longFor_8 rfl ?_
  refine G_iadd dX7_longFor_9 ?_
  exact G_icmp_ge dX7_longFor_10 (by decide) h1 h2 kt kf
theorem k_X7_longFor_46 {Γ : Gm} {Ret : Option Value → Wd → Prop} {a3 : Int} {p0 q1 n2 : Nat} {o1 o2 o4 : Option Value} {w : Wd} (kr : Ret (some (vI (a3 + (wI w q1 2)))) w) (h1 : sh w p0 = some (.inr 7) := by assumption) (h2 : wR w p0 13 = vR q1 := by assumption) (h3 : sh w q1 = some (.inl (0, n2)) := by assumption) (h4 : (0 : Int) ≤ 2 ∧ 2 < (n2 : Int) := by omega) (h5 : n2 < 2147483648 := by omega) : G Γ m_X7_longFor Ret 0 0 46 [some (vR p0), o1, o2, some (vI a3), o4] [] w := by
  refine G_iload_n dX7_longFor_46 rfl ?_
  refine G_aload_n dX7_longFor_47 rfl ?_
  refine G_getR dX7_longFor_48 fl_RX7_28 h1 rfl h2 ?_
  refine G_const dX7_longFor_51 ?_
  refine G_iald dX7_longFor_52 h3 h4 h5 ?_
  refine G_iadd dX7_longFor_53 ?_
  exact G_reti dX7_longFor_54 trivial ⟨rfl, Nat.le_of_ble_eq_true rfl⟩ kr
theorem k_X7_longFor_13 {Γ : Gm} {Ret : Option Value → Wd → Prop} {a1 a2 a3 a4 : Int} {p0 q1 n2 : Nat} {w : Wd} (kt : (wI w q1 (3 * a4)) ≤ a3 → G Γ m_X7_longFor Ret 0 0 38 [some (vR p0), some (vI a1), some (vI a2), some (vI a3), some (vI a4)] [] w) (kf : ¬ ((wI w q1 (3 * a4)) ≤ a3) → G Γ m_X7_longFor Ret 0 0 26 [some (vR p0), some (vI a1), some (vI a2), some (vI a3), some (vI a4)] [] w) (h1 : sh w p0 = some (.inr 7) := by assumption) (h2 : wR w p0 11 = vR q1 := by assumption) (h3 : sh w q1 = some (.inl (0, n2)) := by assumption) (h4 : (0 : Int) ≤ (3 * a4) ∧ (3 * a4) < (n2 : Int) := by omega) (h5 : n2 < 2147483648 := by omega) (h6 : sm (wI w q1 (3 * a4)) := by omega) (h7 : sm a3 := by omega) : G Γ m_X7_longFor Ret 0 0 13 [some (vR p0), some (vI a1), some (vI a2), some (vI a3), some (vI a4)] [] w := by
  refine G_aload_n dX7_longFor_13 rfl ?_
  refine G_getR dX7_longFor_14 fl_RX7_22 h1 rfl h2 ?_
  refine G_const dX7_longFor_17 ?_
  refine G_iload dX7_longFor_18 rfl ?_
  refine G_imul dX7_longFor_20 ?_
  refine G_iald dX7_longFor_21 h3 h4 h5 ?_
  refine G_iload_n dX7_longFor_22 rfl ?_
  exact G_icmp_le dX7_longFor_23 (by decide) h6 h7 kt kf
theorem k_X7_longFor_38 {Γ : Gm} {Ret : Option Value → Wd → Prop} {a1 a2 a3 a4 : Int} {p0 : Nat} {w : Wd} (km : G Γ m_X7_longFor Ret 0 0 5 [some (vR p0), some (vI a1), some (vI a2), some (vI a3), some (vI (a4 + 1))] [] w) : G Γ m_X7_longFor Ret 0 0 38 [some (vR p0), some (vI a1), some (vI a2), some (vI a3), some (vI a4)] [] w := by
  refine G_iload_n dX7_longFor_38 rfl ?_
  refine G_istore_n dX7_longFor_39 (by decide) rfl ?_
  refine G_iinc dX7_longFor_40 (by decide) rfl rfl ?_
  refine G_goto dX7_longFor_43 (tgt := 5) (by decide) ?_
  exact km
theorem k_X7_longFor_26 {Γ : Gm} {Ret : Option Value → Wd → Prop} {a1 a2 a4 : Int} {p0 q1 n2 : Nat} {o3 : Option Value} {w : Wd} (km : G Γ m_X7_longFor Ret 0 0 5 [some (vR p0), some (vI a1), some (vI a2), some (vI (wI w q1 (3 * a4))), some (vI (a4 + 1))] [] w) (h1 : sh w p0 = some (.inr 7) := by assumption) (h2 : wR w p0 11 = vR q1 := by assumption) (h3 : sh w q1 = some (.inl (0, n2)) := by assumption) (h4 : (0 : Int) ≤ (3 * a4) ∧ (3 * a4) < (n2 : Int) := by omega) (h5 : n2 < 2147483648 := by omega) : G Γ m_X7_longFor Ret 0 0 26 [some (vR p0), some (vI a1), some (vI a2), o3, some (vI a4)] [] w := by
  refine G_aload_n dX7_longFor_26 rfl ?_
  refine G_getR dX7_longFor_27 fl_RX7_22 h1 rfl h2 ?_
  refine G_const dX7_longFor_30 ?_
  refine G_iload dX7_longFor_31 rfl ?_
  refine G_imul dX7_longFor_33 ?_
  refine G_iald dX7_longFor_34 h3 h4 h5 ?_
  refine G_goto dX7_longFor_35 (tgt := 39) (by decide) ?_
  refine G_istore_n dX7_longFor_39 (by decide) rfl ?_
  refine G_iinc dX7_longFor_40 (by decide) rfl rfl ?_
  refine G_goto dX7_longFor_43 (tgt := 5) (by decide) ?_
  exact km
theorem k_X7_cut_0 {Γ : Gm} {Ret : Option Value → Wd → Prop} {a1 z1 : Int} {p0 : Nat} {w : Wd} (c1 : SpP Γ m_X7_in [vI a1, vI 1, vI 6] w z1) (kt : z1 ≠ 0 → G Γ m_X7_cut Ret 0 0 12 [some (vR p0), some (vI a1), none, none] [] w) (kf : z1 = 0 → G Γ m_X7_cut Ret 0 0 10 [some (vR p0), some (vI a1), none, none] [] w) (h2 : sm z1 := by omega) : G Γ m_X7_cut Ret 0 0 0 [some (vR p0), some (vI a1), none, none] [] w := by
  refine G_iload_n dX7_cut_0 rfl ?_
  refine G_const dX7_cut_1 ?_
  refine G_bipush dX7_cut_2 (by decide +kernel) ?_
  refine G_SP (as := [vI a1, vI 1, vI 6]) (st := []) n0_X7_in dX7_cut_4 ml_RX7_63 mc_X7_in rfl ⟨by decide, ⟨Nat.le_of_ble_eq_true rfl, Nat.le_of_ble_eq_true rfl⟩, Nat.le_of_ble_eq_true rfl⟩ c1 ?_
  exact G_if_ne dX7_cut_7 (by decide) h2 kt kf
theorem k_X7_cut_12 {Γ : Gm} {Ret : Option Value → Wd → Prop} {a1 z2 : Int} {p0 q1 q3 n4 : Nat} {o2 o3 : Option Value} {w : Wd} (c3 : SpP Γ m_X7_coveredIn [vR q1] w z2) (kt : (wI w q3 0) < a1 → G Γ m_X7_cut Ret 0 0 57 [some (vR p0), some (vI a1), some (vI z2), o3] [] w) (kf : ¬ ((wI w q3 0) < a1) → G Γ m_X7_cut Ret 0 0 30 [some (vR p0), some (vI a1), some (vI z2), o3] [] w) (h1 : sh w p0 = some (.inr 7) := by assumption) (h2 : wR w p0 14 = vR q1 := by assumption) (h4 : wR w p0 13 = vR q3 := by assumption) (h5 : sh w q3 = some (.inl (0, n4)) := by assumption) (h6 : (0 : Int) ≤ 0 ∧ 0 < (n4 : Int) := by omega) (h7 : n4 < 2147483648 := by omega) (h8 : sm a1 := by omega) (h9 : sm (wI w q3 0) := by omega) : G Γ m_X7_cut Ret 0 0 12 [some (vR p0), some (vI a1), o2, o3] [] w := by
  refine G_aload_n dX7_cut_12 rfl ?_
  refine G_getR dX7_cut_13 fl_RX7_31 h1 rfl h2 ?_
  refine G_SP (as := [vR q1]) (st := []) n0_X7_coveredIn dX7_cut_16 ml_RX7_137 mc_X7_coveredIn rfl ⟨by decide, ⟨Nat.le_of_ble_eq_true rfl, Nat.le_of_ble_eq_true rfl⟩, Nat.le_of_ble_eq_true rfl⟩ c3 ?_
  refine G_istore_n dX7_cut_19 (by decide) rfl ?_
  refine G_iload_n dX7_cut_20 rfl ?_
  refine G_aload_n dX7_cut_21 rfl ?_
  refine G_getR dX7_cut_22 fl_RX7_28 h1 rfl h4 ?_
  refine G_const dX7_cut_25 ?_
  refine G_iald dX7_cut_26 h5 h6 h7 ?_
  exact G_icmp_gt dX7_cut_27 (by decide) h8 h9 kt kf
theorem k_X7_cut_10 {Γ : Gm} {Ret : Option Value → Wd → Prop} {o0 o1 o2 o3 : Option Value} {w : Wd} (kr : Ret (some (vI (-1))) w) : G Γ m_X7_cut Ret 0 0 10 [o0, o1, o2, o3] [] w := by
  refine G_const dX7_cut_10 ?_
  exact G_reti dX7_cut_11 trivial ⟨rfl, Nat.le_of_ble_eq_true rfl⟩ kr
theorem k_X7_cut_57 {Γ : Gm} {Ret : Option Value → Wd → Prop} {o0 o1 o2 o3 : Option Value} {w : Wd} (kr : Ret (some (vI (-2))) w) : G Γ m_X7_cut Ret 0 0 57 [o0, o1, o2, o3] [] w := by
  refine G_bipush dX7_cut_57 (by decide +kernel) ?_
  exact G_reti dX7_cut_59 trivial ⟨rfl, Nat.le_of_ble_eq_true rfl⟩ kr
theorem k_X7_cut_30 {Γ : Gm} {Ret : Option Value → Wd → Prop} {a1 a2 : Int} {p0 : Nat} {o3 : Option Value} {w : Wd} (kt : (wI w p0 9) < (a2 + a1) → G Γ m_X7_cut Ret 0 0 57 [some (vR p0), some (vI a1), some (vI a2), o3] [] w) (kf : ¬ ((wI w p0 9) < (a2 + a1)) → G Γ m_X7_cut Ret 0 0 40 [some (vR p0), some (vI a1), some (vI a2), o3] [] w) (h1 : sh w p0 = some (.inr 7) := by assumption) (h2 : sm (a2 + a1) := by omega) (h3 : sm (wI w p0 9) := by omega) : G Γ m_X7_cut Ret 0 0 30 [some (vR p0), some (vI a1), some (vI a2), o3] [] w := by
  refine G_iload_n dX7_cut_30 rfl ?_
  refine G_iload_n dX7_cut_31 rfl ?_
  refine G_iadd dX7_cut_32 ?_
  refine G_aload_n dX7_cut_33 rfl ?_
  refine G_getI dX7_cut_34 fl_RX7_56 h1 rfl ?_
  exact G_icmp_gt dX7_cut_37 (by decide) h2 h3 kt kf
theorem k_X7_cut_40 {Γ : Gm} {Ret : Option Value → Wd → Prop} {a1 a2 z1 z3 : Int} {p0 q2 : Nat} {o3 : Option Value} {w : Wd} (c2 : SpP Γ m_X7_longFor [vR p0, vI a2, vI a1] w z1) (c4 : SpP Γ m_X7_rollIn [vR p0, vR q2] w z3) (kt : z1 ≤ z3 → G Γ m_X7_cut Ret 0 0 60 [some (vR p0), some (vI a1), some (vI a2), o3] [] w) (kf : ¬ (z1 ≤ z3) → G Γ m_X7_cut Ret 0 0 57 [some (vR p0), some (vI a1), some (vI a2), o3] [] w) (h1 : sh w p0 = some (.inr 7) := by assumption) (h3 : wR w p0 14 = vR q2 := by assumption) (h5 : sm z1 := by omega) (h6 : sm z3 := by omega) : G Γ m_X7_cut Ret 0 0 40 [some (vR p0), some (vI a1), some (vI a2), o3] [] w := by
  refine G_aload_n dX7_cut_40 rfl ?_
  refine G_iload_n dX7_cut_41 rfl ?_
  refine G_iload_n dX7_cut_42 rfl ?_
  refine G_VP (as := [vI a2, vI a1]) (st := []) n0_X7_longFor dX7_cut_43 ml_RX7_141 mc_X7_longFor rfl ⟨by decide, ⟨Nat.le_of_ble_eq_true rfl, Nat.le_of_ble_eq_true rfl⟩, Nat.le_of_ble_eq_true rfl⟩ h1 ⟨_, _, rfl⟩ c2 ?_
  refine G_aload_n dX7_cut_46 rfl ?_
  refine G_aload_n dX7_cut_47 rfl ?_
  refine G_getR dX7_cut_48 fl_RX7_31 h1 rfl h3 ?_
  refine G_VP (as := [vR q2]) (st := [vI z1]) n0_X7_rollIn dX7_cut_51 ml_RX7_145 mc_X7_rollIn rfl ⟨by decide, ⟨Nat.le_of_ble_eq_true rfl, Nat.le_of_ble_eq_true rfl⟩, Nat.le_of_ble_eq_true rfl⟩ h1 ⟨_, _, rfl⟩ c4 ?_
  exact G_icmp_le dX7_cut_54 (by decide) h5 h6 kt kf
theorem k_X7_cut_60 {Γ : Gm} {Ret : Option Value → Wd → Prop} {a1 a2 : Int} {p0 : Nat} {o3 : Option Value} {w : Wd} {Q : Wd → Prop} (c2 : SpV Γ m_X7_note [vR p0] w Q) (kq : ∀ u : Wd, Q u → G Γ m_X7_cut Ret 0 0 64 [some (vR p0), some (vI a1), some (vI a2), o3] [] u) (h1 : sh w p0 = some (.inr 7) := by assumption) : G Γ m_X7_cut Ret 0 0 60 [some (vR p0), some (vI a1), some (vI a2), o3] [] w := by
  refine G_aload_n dX7_cut_60 rfl ?_
  exact G_VV (as := []) (st := []) n0_X7_note dX7_cut_61 ml_RX7_148 mc_X7_note rfl ⟨by decide, ⟨Nat.le_of_ble_eq_true rfl, Nat.le_of_ble_eq_true rfl⟩, Nat.le_of_ble_eq_true rfl⟩ h1 ⟨_, _, rfl⟩ c2 (fun u hq => kq u hq)
theorem k_X7_cut_64 {Γ : Gm} {Ret : Option Value → Wd → Prop} {a1 a2 z1 : Int} {p0 q2 n4 : Nat} {o3 : Option Value} {w : Wd} (c2 : SpP Γ m_X7_longFor [vR p0, vI a2, vI a1] w z1) (kr : Ret (some (vI z1)) (stI (stI (stI w q2 (1 + (wI w q2 0)) a1) q2 (13 + (wI (stI w q2 (1 + (wI w q2 0)) a1) q2 0)) z1) q2 0 ((wI (stI (stI w q2 (1 + (wI w q2 0)) a1) q2 (13 + (wI (stI w q2 (1 + (wI w q2 0)) a1) q2 0)) z1) q2 0) + 1))) (h1 : sh w p0 = some (.inr 7) := by assumption) (h3 : wR w p0 14 = vR q2 := by assumption) (h4 : sh w q2 = some (.inl (0, n4)) := by assumption) (h5 : (0 : Int) ≤ 0 ∧ 0 < (n4 : Int) := by omega) (h6 : n4 < 2147483648 := by omega) (h7 : (0 : Int) ≤ (1 + (wI w q2 0)) ∧ (1 + (wI w q2 0)) < (n4 : Int) := by omega) (h8 : (0 : Int) ≤ (13 + (wI (stI w q2 (1 + (wI w q2 0)) a1) q2 0)) ∧ (13 + (wI (stI w q2 (1 + (wI w q2 0)) a1) q2 0)) < (n4 : Int) := by omega) : G Γ m_X7_cut Ret 0 0 64 [some (vR p0), some (vI a1), some (vI a2), o3] [] w := by
  refine G_aload_n dX7_cut_64 rfl ?_
  refine G_iload_n dX7_cut_65 rfl ?_
  refine G_iload_n dX7_cut_66 rfl ?_
  refine G_VP (as := [vI a2, vI a1]) (st := []) n0_X7_longFor dX7_cut_67 ml_RX7_141 mc_X7_longFor rfl ⟨by decide, ⟨Nat.le_of_ble_eq_true rfl, Nat.le_of_ble_eq_true rfl⟩, Nat.le_of_ble_eq_true rfl⟩ h1 ⟨_, _, rfl⟩ c2 ?_
  refine G_istore_n dX7_cut_70 (by decide) rfl ?_
  refine G_aload_n dX7_cut_71 rfl ?_
  refine G_getR dX7_cut_72 fl_RX7_31 h1 rfl h3 ?_
  refine G_const dX7_cut_75 ?_
  refine G_aload_n dX7_cut_76 rfl ?_
  refine G_getR dX7_cut_77 fl_RX7_31 h1 rfl h3 ?_
  refine G_const dX7_cut_80 ?_
  refine G_iald dX7_cut_81 h4 h5 h6 ?_
  refine G_iadd dX7_cut_82 ?_
  refine G_iload_n dX7_cut_83 rfl ?_
  refine G_iast dX7_cut_84 h4 h7 h6 ?_
  refine G_aload_n dX7_cut_85 rfl ?_
  refine G_getR dX7_cut_86 fl_RX7_31 h1 rfl h3 ?_
  refine G_bipush dX7_cut_89 (by decide +kernel) ?_
  refine G_aload_n dX7_cut_91 rfl ?_
  refine G_getR dX7_cut_92 fl_RX7_31 h1 rfl h3 ?_
  refine G_const dX7_cut_95 ?_
  refine G_iald dX7_cut_96 h4 h5 h6 ?_
  refine G_iadd dX7_cut_97 ?_
  refine G_iload_n dX7_cut_98 rfl ?_
  refine G_iast dX7_cut_99 h4 h8 h6 ?_
  refine G_aload_n dX7_cut_100 rfl ?_
  refine G_getR dX7_cut_101 fl_RX7_31 h1 rfl h3 ?_
  refine G_const dX7_cut_104 ?_
  refine G_dup2 dX7_cut_105 rfl rfl ?_
  refine G_iald dX7_cut_106 h4 h5 h6 ?_
  refine G_const dX7_cut_107 ?_
  refine G_iadd dX7_cut_108 ?_
  refine G_iast dX7_cut_109 h4 h5 h6 ?_
  refine G_iload_n dX7_cut_110 rfl ?_
  exact G_reti dX7_cut_111 trivial ⟨rfl, Nat.le_of_ble_eq_true rfl⟩ kr
theorem k_X7_givesBy_0 {Γ : Gm} {Ret : Option Value → Wd → Prop} {a0 a1 a2 : Int} {w : Wd} (kt : a0 ≠ 0 → G Γ m_X7_givesBy Ret 0 0 10 [some (vI a0), some (vI a1), some (vI a2)] [] w) (kf : a0 = 0 → G Γ m_X7_givesBy Ret 0 0 4 [some (vI a0), some (vI a1), some (vI a2)] [] w) (h1 : sm a0 := by omega) : G Γ m_X7_givesBy Ret 0 0 0 [some (vI a0), some (vI a1), some (vI a2)] [] w := by
  refine G_iload_n dX7_givesBy_0 rfl ?_
  exact G_if_ne dX7_givesBy_1 (by decide) h1 kt kf
theorem k_X7_givesBy_10 {Γ : Gm} {Ret : Option Value → Wd → Prop} {a0 a1 a2 : Int} {w : Wd} (kt : a0 ≠ 1 → G Γ m_X7_givesBy Ret 0 0 19 [some (vI a0), some (vI a1), some (vI a2)] [] w) (kf : a0 = 1 → G Γ m_X7_givesBy Ret 0 0 15 [some (vI a0), some (vI a1), some (vI a2)] [] w) (h1 : sm a0 := by omega) : G Γ m_X7_givesBy Ret 0 0 10 [some (vI a0), some (vI a1), some (vI a2)] [] w := by
  refine G_iload_n dX7_givesBy_10 rfl ?_
  refine G_const dX7_givesBy_11 ?_
  exact G_icmp_ne dX7_givesBy_12 (by decide) h1 (by decide) kt kf
theorem k_X7_givesBy_4 {Γ : Gm} {Ret : Option Value → Wd → Prop} {a1 : Int} {o0 o2 : Option Value} {w : Wd} (kr : Ret (some (vI (Int.tdiv a1 2))) w) (h1 : sm a1 := by omega) : G Γ m_X7_givesBy Ret 0 0 4 [o0, some (vI a1), o2] [] w := by
  refine G_iload_n dX7_givesBy_4 rfl ?_
  refine G_const dX7_givesBy_5 ?_
  refine G_idiv dX7_givesBy_6 h1 (by decide) (by decide) (by decide) ?_
  refine G_goto dX7_givesBy_7 (tgt := 33) (by decide) ?_
  exact G_reti dX7_givesBy_33 trivial ⟨rfl, Nat.le_of_ble_eq_true rfl⟩ kr
theorem k_X7_givesBy_19 {Γ : Gm} {Ret : Option Value → Wd → Prop} {a0 a1 a2 : Int} {w : Wd} (kt : a0 ≠ 2 → G Γ m_X7_givesBy Ret 0 0 30 [some (vI a0), some (vI a1), some (vI a2)] [] w) (kf : a0 = 2 → G Γ m_X7_givesBy Ret 0 0 24 [some (vI a0), some (vI a1), some (vI a2)] [] w) (h1 : sm a0 := by omega) : G Γ m_X7_givesBy Ret 0 0 19 [some (vI a0), some (vI a1), some (vI a2)] [] w := by
  refine G_iload_n dX7_givesBy_19 rfl ?_
  refine G_const dX7_givesBy_20 ?_
  exact G_icmp_ne dX7_givesBy_21 (by decide) h1 (by decide) kt kf
theorem k_X7_givesBy_15 {Γ : Gm} {Ret : Option Value → Wd → Prop} {a1 : Int} {o0 o2 : Option Value} {w : Wd} (kr : Ret (some (vI a1)) w) : G Γ m_X7_givesBy Ret 0 0 15 [o0, some (vI a1), o2] [] w := by
  refine G_iload_n dX7_givesBy_15 rfl ?_
  refine G_goto dX7_givesBy_16 (tgt := 33) (by decide) ?_
  exact G_reti dX7_givesBy_33 trivial ⟨rfl, Nat.le_of_ble_eq_true rfl⟩ kr
theorem k_X7_givesBy_30 {Γ : Gm} {Ret : Option Value → Wd → Prop} {a1 a2 : Int} {o0 : Option Value} {w : Wd} (kr : Ret (some (vI (a1 + a2))) w) : G Γ m_X7_givesBy Ret 0 0 30 [o0, some (vI a1), some (vI a2)] [] w := by
  refine G_iload_n dX7_givesBy_30 rfl ?_
  refine G_iload_n dX7_givesBy_31 rfl ?_
  refine G_iadd dX7_givesBy_32 ?_
  exact G_reti dX7_givesBy_33 trivial ⟨rfl, Nat.le_of_ble_eq_true rfl⟩ kr
theorem k_X7_givesBy_24 {Γ : Gm} {Ret : Option Value → Wd → Prop} {a1 : Int} {o0 o2 : Option Value} {w : Wd} (kr : Ret (some (vI (2 * a1))) w) : G Γ m_X7_givesBy Ret 0 0 24 [o0, some (vI a1), o2] [] w := by
  refine G_const dX7_givesBy_24 ?_
  refine G_iload_n dX7_givesBy_25 rfl ?_
  refine G_imul dX7_givesBy_26 ?_
  refine G_goto dX7_givesBy_27 (tgt := 33) (by decide) ?_
  exact G_reti dX7_givesBy_33 trivial ⟨rfl, Nat.le_of_ble_eq_true rfl⟩ kr
theorem k_X7_tightBy_0 {Γ : Gm} {Ret : Option Value → Wd → Prop} {a2 a3 : Int} {p0 p1 n1 : Nat} {w : Wd} (kt : (wI w p1 29) ≠ 0 → G Γ m_X7_tightBy Ret 0 0 9 [some (vR p0), some (vR p1), some (vI a2), some (vI a3), none, none, none] [] w) (kf : (wI w p1 29) = 0 → G Γ m_X7_tightBy Ret 0 0 7 [some (vR p0), some (vR p1), some (vI a2), some (vI a3), none, none, none] [] w) (h1 : sh w p1 = some (.inl (0, n1)) := by assumption) (h2 : (0 : Int) ≤ 29 ∧ 29 < (n1 : Int) := by omega) (h3 : n1 < 2147483648 := by omega) (h4 : sm (wI w p1 29) := by omega) : G Γ m_X7_tightBy Ret 0 0 0 [some (vR p0), some (vR p1), some (vI a2), some (vI a3), none, none, none] [] w := by
  refine G_aload_n dX7_tightBy_0 rfl ?_
  refine G_bipush dX7_tightBy_1 (by decide +kernel) ?_
  refine G_iald dX7_tightBy_3 h1 h2 h3 ?_
  exact G_if_ne dX7_tightBy_4 (by decide) h4 kt kf
theorem k_X7_tightBy_9 {Γ : Gm} {Ret : Option Value → Wd → Prop} {a2 a3 z1 : Int} {p0 p1 : Nat} {o4 o5 o6 : Option Value} {w : Wd} (c2 : SpP Γ m_X7_isHooked [vR p1, vI (Int.tmod (a2 + 2) 4)] w z1) (kt : z1 = 0 → G Γ m_X7_tightBy Ret 0 0 37 [some (vR p0), some (vR p1), some (vI a2), some (vI a3), some (vI (Int.tmod (a2 + 2) 4)), o5, o6] [] w) (kf : ¬ (z1 = 0) → G Γ m_X7_tightBy Ret 0 0 25 [some (vR p0), some (vR p1), some (vI a2), some (vI a3), some (vI (Int.tmod (a2 + 2) 4)), o5, o6] [] w) (h1 : sm (a2 + 2) := by omega) (h3 : sm z1 := by omega) : G Γ m_X7_tightBy Ret 0 0 9 [some (vR p0), some (vR p1), some (vI a2), some (vI a3), o4, o5, o6] [] w := by
  refine G_iload_n dX7_tightBy_9 rfl ?_
  refine G_const dX7_tightBy_10 ?_
  refine G_iadd dX7_tightBy_11 ?_
  refine G_const dX7_tightBy_12 ?_
  refine G_irem dX7_tightBy_13 h1 (by decide) (by decide) (by decide) ?_
  refine G_istore dX7_tightBy_14 (by decide) rfl ?_
  refine G_aload_n dX7_tightBy_16 rfl ?_
  refine G_iload dX7_tightBy_17 rfl ?_
  refine G_SP (as := [vR p1, vI (Int.tmod (a2 + 2) 4)]) (st := []) n0_X7_isHooked dX7_tightBy_19 ml_RX7_130 mc_X7_isHooked rfl ⟨by decide, ⟨Nat.le_of_ble_eq_true rfl, Nat.le_of_ble_eq_true rfl⟩, Nat.le_of_ble_eq_true rfl⟩ c2 ?_
  exact G_if_eq dX7_tightBy_22 (by decide) h3 kt kf
theorem k_X7_tightBy_7 {Γ : Gm} {Ret : Option Value → Wd → Prop} {o0 o1 o2 o3 o4 o5 o6 : Option Value} {w : Wd} (kr : Ret (some (vI 2)) w) : G Γ m_X7_tightBy Ret 0 0 7 [o0, o1, o2, o3, o4, o5, o6] [] w := by
  refine G_const dX7_tightBy_7 ?_
  exact G_reti dX7_tightBy_8 trivial ⟨rfl, Nat.le_of_ble_eq_true rfl⟩ kr
theorem k_X7_tightBy_37 {Γ : Gm} {Ret : Option Value → Wd → Prop} {a3 z5 z6 : Int} {p0 p1 q1 n2 n4 : Nat} {o2 o4 o5 o6 : Option Value} {w : Wd} (c11 : SpP Γ m_X7_bits [vI (wI w p1 29)] w z5) (c12 : SpP Γ m_X7_givesBy [vI (wI w q1 4), vI (wI w q1 5), vI z5] w z6) (kt : 0 ≤ ((a3 + 0) - z6) → G Γ m_X7_tightBy Ret 0 0 78 [some (vR p0), some (vR p1), o2, some (vI a3), o4, some (vI 0), some (vI ((a3 + 0) - z6))] [] w) (kf : ¬ (0 ≤ ((a3 + 0) - z6)) → G Γ m_X7_tightBy Ret 0 0 74 [some (vR p0), some (vR p1), o2, some (vI a3), o4, some (vI 0), some (vI ((a3 + 0) - z6))] [] w) (h1 : nl1 [o4] 1 = true := by rfl) (h2 : sh w p0 = some (.inr 7) := by assumption) (h3 : wR w p0 13 = vR q1 := by assumption) (h4 : sh w q1 = some (.inl (0, n2)) := by assumption) (h5 : (0 : Int) ≤ 4 ∧ 4 < (n2 : Int) := by omega) (h6 : n2 < 2147483648 := by omega) (h7 : (0 : Int) ≤ 5 ∧ 5 < (n2 : Int) := by omega) (h8 : sh w p1 = some (.inl (0, n4)) := by assumption) (h9 : (0 : Int) ≤ 29 ∧ 29 < (n4 : Int) := by omega) (h10 : n4 < 2147483648 := by omega) (h13 : sm ((a3 + 0) - z6) := by omega) : G Γ m_X7_tightBy Ret 0 0 37 [some (vR p0), some (vR p1), o2, some (vI a3), o4, o5, o6] [] w := by
  refine G_const dX7_tightBy_37 ?_
  refine G_istore dX7_tightBy_38 (by decide) (by simpa [nl1] using h1) ?_
  refine G_iload_n dX7_tightBy_40 rfl ?_
  refine G_iload dX7_tightBy_41 rfl ?_
  refine G_iadd dX7_tightBy_43 ?_
  refine G_aload_n dX7_tightBy_44 rfl ?_
  refine G_getR dX7_tightBy_45 fl_RX7_28 h2 rfl h3 ?_
  refine G_const dX7_tightBy_48 ?_
  refine G_iald dX7_tightBy_49 h4 h5 h6 ?_
  refine G_aload_n dX7_tightBy_50 rfl ?_
  refine G_getR dX7_tightBy_51 fl_RX7_28 h2 rfl h3 ?_
  refine G_const dX7_tightBy_54 ?_
  refine G_iald dX7_tightBy_55 h4 h7 h6 ?_
  refine G_aload_n dX7_tightBy_56 rfl ?_
  refine G_bipush dX7_tightBy_57 (by decide +kernel) ?_
  refine G_iald dX7_tightBy_59 h8 h9 h10 ?_
  refine G_SP (as := [vI (wI w p1 29)]) (st := [vI (wI w q1 5), vI (wI w q1 4), vI (a3 + 0)]) n0_X7_bits dX7_tightBy_60 ml_RX7_151 mc_X7_bits rfl ⟨by decide, ⟨Nat.le_of_ble_eq_true rfl, Nat.le_of_ble_eq_true rfl⟩, Nat.le_of_ble_eq_true rfl⟩ c11 ?_
  refine G_SP (as := [vI (wI w q1 4), vI (wI w q1 5), vI z5]) (st := [vI (a3 + 0)]) n0_X7_givesBy dX7_tightBy_63 ml_RX7_154 mc_X7_givesBy rfl ⟨by decide, ⟨Nat.le_of_ble_eq_true rfl, Nat.le_of_ble_eq_true rfl⟩, Nat.le_of_ble_eq_true rfl⟩ c12 ?_
  refine G_isub dX7_tightBy_66 ?_
  refine G_istore dX7_tightBy_67 (by decide) rfl ?_
  refine G_iload dX7_tightBy_69 rfl ?_
  exact G_if_ge dX7_tightBy_71 (by decide) h13 kt kf
theorem k_X7_tightBy_25 {Γ : Gm} {Ret : Option Value → Wd → Prop} {a3 a4 z5 z6 : Int} {p0 p1 q2 n1 n3 : Nat} {o2 o5 o6 : Option Value} {w : Wd} (c12 : SpP Γ m_X7_bits [vI (wI w p1 29)] w z5) (c13 : SpP Γ m_X7_givesBy [vI (wI w q2 4), vI (wI w q2 5), vI z5] w z6) (kt : 0 ≤ ((a3 + (Int.tdiv (wI w p1 (25 + a4)) 2)) - z6) → G Γ m_X7_tightBy Ret 0 0 78 [some (vR p0), some (vR p1), o2, some (vI a3), some (vI a4), some (vI (Int.tdiv (wI w p1 (25 + a4)) 2)), some (vI ((a3 + (Int.tdiv (wI w p1 (25 + a4)) 2)) - z6))] [] w) (kf : ¬ (0 ≤ ((a3 + (Int.tdiv (wI w p1 (25 + a4)) 2)) - z6)) → G Γ m_X7_tightBy Ret 0 0 74 [some (vR p0), some (vR p1), o2, some (vI a3), some (vI a4), some (vI (Int.tdiv (wI w p1 (25 + a4)) 2)), some (vI ((a3 + (Int.tdiv (wI w p1 (25 + a4)) 2)) - z6))] [] w) (h1 : sh w p1 = some (.inl (0, n1)) := by assumption) (h2 : (0 : Int) ≤ (25 + a4) ∧ (25 + a4) < (n1 : Int) := by omega) (h3 : n1 < 2147483648 := by omega) (h4 : sm (wI w p1 (25 + a4)) := by omega) (h5 : sh w p0 = some (.inr 7) := by assumption) (h6 : wR w p0 13 = vR q2 := by assumption) (h7 : sh w q2 = some (.inl (0, n3)) := by assumption) (h8 : (0 : Int) ≤ 4 ∧ 4 < (n3 : Int) := by omega) (h9 : n3 < 2147483648 := by omega) (h10 : (0 : Int) ≤ 5 ∧ 5 < (n3 : Int) := by omega) (h11 : (0 : Int) ≤ 29 ∧ 29 < (n1 : Int) := by omega) (h14 : sm ((a3 + (Int.tdiv (wI w p1 (25 + a4)) 2)) - z6) := by omega) : G Γ m_X7_tightBy Ret 0 0 25 [some (vR p0), some (vR p1), o2, some (vI a3), some (vI a4), o5, o6] [] w := by
  refine G_aload_n dX7_tightBy_25 rfl ?_
  refine G_bipush dX7_tightBy_26 (by decide +kernel) ?_
  refine G_iload dX7_tightBy_28 rfl ?_
  refine G_iadd dX7_tightBy_30 ?_
  refine G_iald dX7_tightBy_31 h1 h2 h3 ?_
  refine G_const dX7_tightBy_32 ?_
  refine G_idiv dX7_tightBy_33 h4 (by decide) (by decide) (by decide) ?_
  refine G_goto dX7_tightBy_34 (tgt := 38) (by decide) ?_
  refine G_istore dX7_tightBy_38 (by decide) rfl ?_
  refine G_iload_n dX7_tightBy_40 rfl ?_
  refine G_iload dX7_tightBy_41 rfl ?_
  refine G_iadd dX7_tightBy_43 ?_
  refine G_aload_n dX7_tightBy_44 rfl ?_
  refine G_getR dX7_tightBy_45 fl_RX7_28 h5 rfl h6 ?_
  refine G_const dX7_tightBy_48 ?_
  refine G_iald dX7_tightBy_49 h7 h8 h9 ?_
  refine G_aload_n dX7_tightBy_50 rfl ?_
  refine G_getR dX7_tightBy_51 fl_RX7_28 h5 rfl h6 ?_
  refine G_const dX7_tightBy_54 ?_
  refine G_iald dX7_tightBy_55 h7 h10 h9 ?_
  refine G_aload_n dX7_tightBy_56 rfl ?_
  refine G_bipush dX7_tightBy_57 (by decide +kernel) ?_
  refine G_iald dX7_tightBy_59 h1 h11 h3 ?_
  refine G_SP (as := [vI (wI w p1 29)]) (st := [vI (wI w q2 5), vI (wI w q2 4), vI (a3 + (Int.tdiv (wI w p1 (25 + a4)) 2))]) n0_X7_bits dX7_tightBy_60 ml_RX7_151 mc_X7_bits rfl ⟨by decide, ⟨Nat.le_of_ble_eq_true rfl, Nat.le_of_ble_eq_true rfl⟩, Nat.le_of_ble_eq_true rfl⟩ c12 ?_
  refine G_SP (as := [vI (wI w q2 4), vI (wI w q2 5), vI z5]) (st := [vI (a3 + (Int.tdiv (wI w p1 (25 + a4)) 2))]) n0_X7_givesBy dX7_tightBy_63 ml_RX7_154 mc_X7_givesBy rfl ⟨by decide, ⟨Nat.le_of_ble_eq_true rfl, Nat.le_of_ble_eq_true rfl⟩, Nat.le_of_ble_eq_true rfl⟩ c13 ?_
  refine G_isub dX7_tightBy_66 ?_
  refine G_istore dX7_tightBy_67 (by decide) rfl ?_
  refine G_iload dX7_tightBy_69 rfl ?_
  exact G_if_ge dX7_tightBy_71 (by decide) h14 kt kf
theorem k_X7_tightBy_78 {Γ : Gm} {Ret : Option Value → Wd → Prop} {a6 : Int} {o0 o1 o2 o3 o4 o5 : Option Value} {w : Wd} (kr : Ret (some (vI a6)) w) : G Γ m_X7_tightBy Ret 0 0 78 [o0, o1, o2, o3, o4, o5, some (vI a6)] [] w := by
  refine G_iload dX7_tightBy_78 rfl ?_
  exact G_reti dX7_tightBy_80 trivial ⟨rfl, Nat.le_of_ble_eq_true rfl⟩ kr
theorem k_X7_tightBy_74 {Γ : Gm} {Ret : Option Value → Wd → Prop} {o0 o1 o2 o3 o4 o5 o6 : Option Value} {w : Wd} (kr : Ret (some (vI 0)) w) : G Γ m_X7_tightBy Ret 0 0 74 [o0, o1, o2, o3, o4, o5, o6] [] w := by
  refine G_const dX7_tightBy_74 ?_
  refine G_goto dX7_tightBy_75 (tgt := 80) (by decide) ?_
  exact G_reti dX7_tightBy_80 trivial ⟨rfl, Nat.le_of_ble_eq_true rfl⟩ kr
theorem k_X7_isFree_0 {Γ : Gm} {Ret : Option Value → Wd → Prop} {a1 z2 : Int} {p0 n1 : Nat} {w : Wd} (c5 : SpP Γ m_X7_has [vI (zor (wI w p0 29) (wI w p0 30)), vI a1] w z2) (kt : z2 ≠ 0 → G Γ m_X7_isFree Ret 0 0 20 [some (vR p0), some (vI a1)] [] w) (kf : z2 = 0 → G Γ m_X7_isFree Ret 0 0 16 [some (vR p0), some (vI a1)] [] w) (h1 : sh w p0 = some (.inl (0, n1)) := by assumption) (h2 : (0 : Int) ≤ 29 ∧ 29 < (n1 : Int) := by omega) (h3 : n1 < 2147483648 := by omega) (h4 : (0 : Int) ≤ 30 ∧ 30 < (n1 : Int) := by omega) (h6 : sm z2 := by omega) : G Γ m_X7_isFree Ret 0 0 0 [some (vR p0), some (vI a1)] [] w := by
  refine G_aload_n dX7_isFree_0 rfl ?_
  refine G_bipush dX7_isFree_1 (by decide +kernel) ?_
  refine G_iald dX7_isFree_3 h1 h2 h3 ?_
  refine G_aload_n dX7_isFree_4 rfl ?_
  refine G_bipush dX7_isFree_5 (by decide +kernel) ?_
  refine G_iald dX7_isFree_7 h1 h4 h3 ?_
  refine G_ior dX7_isFree_8 ?_
  refine G_iload_n dX7_isFree_9 rfl ?_
  refine G_SP (as := [vI (zor (wI w p0 29) (wI w p0 30)), vI a1]) (st := []) n0_X7_has dX7_isFree_10 ml_RX7_126 mc_X7_has rfl ⟨by decide, ⟨Nat.le_of_ble_eq_true rfl, Nat.le_of_ble_eq_true rfl⟩, Nat.le_of_ble_eq_true rfl⟩ c5 ?_
  exact G_if_ne dX7_isFree_13 (by decide) h6 kt kf
theorem k_X7_isFree_20 {Γ : Gm} {Ret : Option Value → Wd → Prop} {o0 o1 : Option Value} {w : Wd} (kr : Ret (some (vI 0)) w) : G Γ m_X7_isFree Ret 0 0 20 [o0, o1] [] w := by
  refine G_const dX7_isFree_20 ?_
  exact G_reti dX7_isFree_21 (Or.inl rfl) ⟨rfl, Nat.le_of_ble_eq_true rfl⟩ kr
theorem k_X7_isFree_16 {Γ : Gm} {Ret : Option Value → Wd → Prop} {o0 o1 : Option Value} {w : Wd} (kr : Ret (some (vI 1)) w) : G Γ m_X7_isFree Ret 0 0 16 [o0, o1] [] w := by
  refine G_const dX7_isFree_16 ?_
  refine G_goto dX7_isFree_17 (tgt := 21) (by decide) ?_
  exact G_reti dX7_isFree_21 (Or.inr rfl) ⟨rfl, Nat.le_of_ble_eq_true rfl⟩ kr
theorem k_X7_kick_0 {Γ : Gm} {Ret : Option Value → Wd → Prop} {a2 a3 z1 : Int} {p0 p1 q2 n3 : Nat} {w : Wd} (c2 : SpP Γ m_X7_tightBy [vR p0, vR p1, vI a2, vI a3] w z1) (kt : z1 ≤ (wI w q2 3) → G Γ m_X7_kick Ret 0 0 35 [some (vR p0), some (vR p1), some (vI a2), some (vI a3), some (vI z1)] [] w) (kf : ¬ (z1 ≤ (wI w q2 3)) → G Γ m_X7_kick Ret 0 0 20 [some (vR p0), some (vR p1), some (vI a2), some (vI a3), some (vI z1)] [] w) (h1 : sh w p0 = some (.inr 7) := by assumption) (h3 : wR w p0 13 = vR q2 := by assumption) (h4 : sh w q2 = some (.inl (0, n3)) := by assumption) (h5 : (0 : Int) ≤ 3 ∧ 3 < (n3 : Int) := by omega) (h6 : n3 < 2147483648 := by omega) (h7 : sm z1 := by omega) (h8 : sm (wI w q2 3) := by omega) : G Γ m_X7_kick Ret 0 0 0 [some (vR p0), some (vR p1), some (vI a2), some (vI a3), none] [] w := by
  refine G_aload_n dX7_kick_0 rfl ?_
  refine G_aload_n dX7_kick_1 rfl ?_
  refine G_iload_n dX7_kick_2 rfl ?_
  refine G_iload_n dX7_kick_3 rfl ?_
  refine G_VP (as := [vR p1, vI a2, vI a3]) (st := []) n0_X7_tightBy dX7_kick_4 ml_RX7_158 mc_X7_tightBy rfl ⟨by decide, ⟨Nat.le_of_ble_eq_true rfl, Nat.le_of_ble_eq_true rfl⟩, Nat.le_of_ble_eq_true rfl⟩ h1 ⟨_, _, rfl⟩ c2 ?_
  refine G_istore dX7_kick_7 (by decide) rfl ?_
  refine G_iload dX7_kick_9 rfl ?_
  refine G_aload_n dX7_kick_11 rfl ?_
  refine G_getR dX7_kick_12 fl_RX7_28 h1 rfl h3 ?_
  refine G_const dX7_kick_15 ?_
  refine G_iald dX7_kick_16 h4 h5 h6 ?_
  exact G_icmp_le dX7_kick_17 (by decide) h7 h8 kt kf
theorem k_X7_kick_35 {Γ : Gm} {Ret : Option Value → Wd → Prop} {a2 a4 : Int} {p1 n1 : Nat} {o0 o3 : Option Value} {w : Wd} (kr : Ret none (stI (stI w p1 29 (zor (wI w p1 29) (zshl 1 a2))) p1 (25 + a2) a4)) (h1 : sh w p1 = some (.inl (0, n1)) := by assumption) (h2 : (0 : Int) ≤ 29 ∧ 29 < (n1 : Int) := by omega) (h3 : n1 < 2147483648 := by omega) (h4 : (0 : Int) ≤ (25 + a2) ∧ (25 + a2) < (n1 : Int) := by omega) : G Γ m_X7_kick Ret 0 0 35 [o0, some (vR p1), some (vI a2), o3, some (vI a4)] [] w := by
  refine G_aload_n dX7_kick_35 rfl ?_
  refine G_bipush dX7_kick_36 (by decide +kernel) ?_
  refine G_aload_n dX7_kick_38 rfl ?_
  refine G_bipush dX7_kick_39 (by decide +kernel) ?_
  refine G_iald dX7_kick_41 h1 h2 h3 ?_
  refine G_const dX7_kick_42 ?_
  refine G_iload_n dX7_kick_43 rfl ?_
  refine G_ishl dX7_kick_44 ?_
  refine G_ior dX7_kick_45 ?_
  refine G_iast dX7_kick_46 h1 h2 h3 ?_
  refine G_aload_n dX7_kick_47 rfl ?_
  refine G_bipush dX7_kick_48 (by decide +kernel) ?_
  refine G_iload_n dX7_kick_50 rfl ?_
  refine G_iadd dX7_kick_51 ?_
  refine G_iload dX7_kick_52 rfl ?_
  refine G_iast dX7_kick_54 h1 h4 h3 ?_
  exact G_retv dX7_kick_55 trivial ⟨rfl, Nat.le_of_ble_eq_true rfl⟩ kr
theorem k_X7_kick_20 {Γ : Gm} {Ret : Option Value → Wd → Prop} {a2 : Int} {p1 n1 : Nat} {o0 o3 o4 : Option Value} {w : Wd} (kr : Ret none (stI w p1 30 (zor (wI w p1 30) (zshl 1 a2)))) (h1 : sh w p1 = some (.inl (0, n1)) := by assumption) (h2 : (0 : Int) ≤ 30 ∧ 30 < (n1 : Int) := by omega) (h3 : n1 < 2147483648 := by omega) : G Γ m_X7_kick Ret 0 0 20 [o0, some (vR p1), some (vI a2), o3, o4] [] w := by
  refine G_aload_n dX7_kick_20 rfl ?_
  refine G_bipush dX7_kick_21 (by decide +kernel) ?_
  refine G_aload_n dX7_kick_23 rfl ?_
  refine G_bipush dX7_kick_24 (by decide +kernel) ?_
  refine G_iald dX7_kick_26 h1 h2 h3 ?_
  refine G_const dX7_kick_27 ?_
  refine G_iload_n dX7_kick_28 rfl ?_
  refine G_ishl dX7_kick_29 ?_
  refine G_ior dX7_kick_30 ?_
  refine G_iast dX7_kick_31 h1 h2 h3 ?_
  refine G_goto dX7_kick_32 (tgt := 55) (by decide) ?_
  exact G_retv dX7_kick_55 trivial ⟨rfl, Nat.le_of_ble_eq_true rfl⟩ kr
theorem k_X7_isCovered_0 {Γ : Gm} {Ret : Option Value → Wd → Prop} {z2 : Int} {p0 q1 : Nat} {w : Wd} (c3 : SpP Γ m_X7_coveredIn [vR q1] w z2) (kt : z2 ≠ (wI w p0 9) → G Γ m_X7_isCovered Ret 0 0 18 [some (vR p0)] [] w) (kf : z2 = (wI w p0 9) → G Γ m_X7_isCovered Ret 0 0 14 [some (vR p0)] [] w) (h1 : sh w p0 = some (.inr 7) := by assumption) (h2 : wR w p0 14 = vR q1 := by assumption) (h4 : sm z2 := by omega) (h5 : sm (wI w p0 9) := by omega) : G Γ m_X7_isCovered Ret 0 0 0 [some (vR p0)] [] w := by
  refine G_aload_n dX7_isCovered_0 rfl ?_
  refine G_getR dX7_isCovered_1 fl_RX7_31 h1 rfl h2 ?_
  refine G_SP (as := [vR q1]) (st := []) n0_X7_coveredIn dX7_isCovered_4 ml_RX7_137 mc_X7_coveredIn rfl ⟨by decide, ⟨Nat.le_of_ble_eq_true rfl, Nat.le_of_ble_eq_true rfl⟩, Nat.le_of_ble_eq_true rfl⟩ c3 ?_
  refine G_aload_n dX7_isCovered_7 rfl ?_
  refine G_getI dX7_isCovered_8 fl_RX7_56 h1 rfl ?_
  exact G_icmp_ne dX7_isCovered_11 (by decide) h4 h5 kt kf
theorem k_X7_isCovered_18 {Γ : Gm} {Ret : Option Value → Wd → Prop} {o0 : Option Value} {w : Wd} (kr : Ret (some (vI 0)) w) : G Γ m_X7_isCovered Ret 0 0 18 [o0] [] w := by
  refine G_const dX7_isCovered_18 ?_
  exact G_reti dX7_isCovered_19 (Or.inl rfl) ⟨rfl, Nat.le_of_ble_eq_true rfl⟩ kr
theorem k_X7_isCovered_14 {Γ : Gm} {Ret : Option Value → Wd → Prop} {o0 : Option Value} {w : Wd} (kr : Ret (some (vI 1)) w) : G Γ m_X7_isCovered Ret 0 0 14 [o0] [] w := by
  refine G_const dX7_isCovered_14 ?_
  refine G_goto dX7_isCovered_15 (tgt := 19) (by decide) ?_
  exact G_reti dX7_isCovered_19 (Or.inr rfl) ⟨rfl, Nat.le_of_ble_eq_true rfl⟩ kr
theorem k_X7_hook_0 {Γ : Gm} {Ret : Option Value → Wd → Prop} {a1 a2 z1 : Int} {p0 : Nat} {w : Wd} (c1 : SpP Γ m_X7_in [vI a1, vI 0, vI 3] w z1) (kt : z1 = 0 → G Γ m_X7_hook Ret 0 0 19 [some (vR p0), some (vI a1), some (vI a2)] [] w) (kf : ¬ (z1 = 0) → G Γ m_X7_hook Ret 0 0 9 [some (vR p0), some (vI a1), some (vI a2)] [] w) (h2 : sm z1 := by omega) : G Γ m_X7_hook Ret 0 0 0 [some (vR p0), some (vI a1), some (vI a2)] [] w := by
  refine G_iload_n dX7_hook_0 rfl ?_
  refine G_const dX7_hook_1 ?_
  refine G_const dX7_hook_2 ?_
  refine G_SP (as := [vI a1, vI 0, vI 3]) (st := []) n0_X7_in dX7_hook_3 ml_RX7_63 mc_X7_in rfl ⟨by decide, ⟨Nat.le_of_ble_eq_true rfl, Nat.le_of_ble_eq_true rfl⟩, Nat.le_of_ble_eq_true rfl⟩ c1 ?_
  exact G_if_eq dX7_hook_6 (by decide) h2 kt kf
theorem k_X7_hook_19 {Γ : Gm} {Ret : Option Value → Wd → Prop} {o0 o1 o2 : Option Value} {w : Wd} (kr : Ret (some (vI (-1))) w) : G Γ m_X7_hook Ret 0 0 19 [o0, o1, o2] [] w := by
  refine G_const dX7_hook_19 ?_
  exact G_reti dX7_hook_20 trivial ⟨rfl, Nat.le_of_ble_eq_true rfl⟩ kr
theorem k_X7_hook_9 {Γ : Gm} {Ret : Option Value → Wd → Prop} {a1 a2 z1 : Int} {p0 : Nat} {w : Wd} (c1 : SpP Γ m_X7_in [vI a2, vI 0, vI 20] w z1) (kt : z1 ≠ 0 → G Γ m_X7_hook Ret 0 0 21 [some (vR p0), some (vI a1), some (vI a2)] [] w) (kf : z1 = 0 → G Γ m_X7_hook Ret 0 0 19 [some (vR p0), some (vI a1), some (vI a2)] [] w) (h2 : sm z1 := by omega) : G Γ m_X7_hook Ret 0 0 9 [some (vR p0), some (vI a1), some (vI a2)] [] w := by
  refine G_iload_n dX7_hook_9 rfl ?_
  refine G_const dX7_hook_10 ?_
  refine G_bipush dX7_hook_11 (by decide +kernel) ?_
  refine G_SP (as := [vI a2, vI 0, vI 20]) (st := []) n0_X7_in dX7_hook_13 ml_RX7_63 mc_X7_in rfl ⟨by decide, ⟨Nat.le_of_ble_eq_true rfl, Nat.le_of_ble_eq_true rfl⟩, Nat.le_of_ble_eq_true rfl⟩ c1 ?_
  exact G_if_ne dX7_hook_16 (by decide) h2 kt kf
theorem k_X7_hook_21 {Γ : Gm} {Ret : Option Value → Wd → Prop} {a1 a2 z1 : Int} {p0 : Nat} {w : Wd} (c2 : SpP Γ m_X7_isCovered [vR p0] w z1) (kt : z1 = 0 → G Γ m_X7_hook Ret 0 0 39 [some (vR p0), some (vI a1), some (vI a2)] [] w) (kf : ¬ (z1 = 0) → G Γ m_X7_hook Ret 0 0 28 [some (vR p0), some (vI a1), some (vI a2)] [] w) (h1 : sh w p0 = some (.inr 7) := by assumption) (h3 : sm z1 := by omega) : G Γ m_X7_hook Ret 0 0 21 [some (vR p0), some (vI a1), some (vI a2)] [] w := by
  refine G_aload_n dX7_hook_21 rfl ?_
  refine G_VP (as := []) (st := []) n0_X7_isCovered dX7_hook_22 ml_RX7_162 mc_X7_isCovered rfl ⟨by decide, ⟨Nat.le_of_ble_eq_true rfl, Nat.le_of_ble_eq_true rfl⟩, Nat.le_of_ble_eq_true rfl⟩ h1 ⟨_, _, rfl⟩ c2 ?_
  exact G_if_eq dX7_hook_25 (by decide) h3 kt kf
theorem k_X7_hook_39 {Γ : Gm} {Ret : Option Value → Wd → Prop} {o0 o1 o2 : Option Value} {w : Wd} (kr : Ret (some (vI (-2))) w) : G Γ m_X7_hook Ret 0 0 39 [o0, o1, o2] [] w := by
  refine G_bipush dX7_hook_39 (by decide +kernel) ?_
  exact G_reti dX7_hook_41 trivial ⟨rfl, Nat.le_of_ble_eq_true rfl⟩ kr
theorem k_X7_hook_28 {Γ : Gm} {Ret : Option Value → Wd → Prop} {a1 a2 z2 : Int} {p0 q1 : Nat} {w : Wd} (c3 : SpP Γ m_X7_isFree [vR q1, vI a1] w z2) (kt : z2 ≠ 0 → G Γ m_X7_hook Ret 0 0 42 [some (vR p0), some (vI a1), some (vI a2)] [] w) (kf : z2 = 0 → G Γ m_X7_hook Ret 0 0 39 [some (vR p0), some (vI a1), some (vI a2)] [] w) (h1 : sh w p0 = some (.inr 7) := by assumption) (h2 : wR w p0 14 = vR q1 := by assumption) (h4 : sm z2 := by omega) : G Γ m_X7_hook Ret 0 0 28 [some (vR p0), some (vI a1), some (vI a2)] [] w := by
  refine G_aload_n dX7_hook_28 rfl ?_
  refine G_getR dX7_hook_29 fl_RX7_31 h1 rfl h2 ?_
  refine G_iload_n dX7_hook_32 rfl ?_
  refine G_SP (as := [vR q1, vI a1]) (st := []) n0_X7_isFree dX7_hook_33 ml_RX7_165 mc_X7_isFree rfl ⟨by decide, ⟨Nat.le_of_ble_eq_true rfl, Nat.le_of_ble_eq_true rfl⟩, Nat.le_of_ble_eq_true rfl⟩ c3 ?_
  exact G_if_ne dX7_hook_36 (by decide) h4 kt kf
theorem k_X7_hook_42 {Γ : Gm} {Ret : Option Value → Wd → Prop} {a1 a2 : Int} {p0 : Nat} {w : Wd} {Q : Wd → Prop} (c2 : SpV Γ m_X7_note [vR p0] w Q) (kq : ∀ u : Wd, Q u → G Γ m_X7_hook Ret 0 0 46 [some (vR p0), some (vI a1), some (vI a2)] [] u) (h1 : sh w p0 = some (.inr 7) := by assumption) : G Γ m_X7_hook Ret 0 0 42 [some (vR p0), some (vI a1), some (vI a2)] [] w := by
  refine G_aload_n dX7_hook_42 rfl ?_
  exact G_VV (as := []) (st := []) n0_X7_note dX7_hook_43 ml_RX7_148 mc_X7_note rfl ⟨by decide, ⟨Nat.le_of_ble_eq_true rfl, Nat.le_of_ble_eq_true rfl⟩, Nat.le_of_ble_eq_true rfl⟩ h1 ⟨_, _, rfl⟩ c2 (fun u hq => kq u hq)
theorem k_X7_hook_46 {Γ : Gm} {Ret : Option Value → Wd → Prop} {a1 a2 : Int} {p0 q1 : Nat} {w : Wd} {Q : Wd → Prop} (c3 : SpV Γ m_X7_kick [vR p0, vR q1, vI a1, vI a2] w Q) (kq : ∀ u : Wd, Q u → G Γ m_X7_hook Ret 0 0 56 [some (vR p0), some (vI a1), some (vI a2)] [] u) (h1 : sh w p0 = some (.inr 7) := by assumption) (h2 : wR w p0 14 = vR q1 := by assumption) : G Γ m_X7_hook Ret 0 0 46 [some (vR p0), some (vI a1), some (vI a2)] [] w := by
  refine G_aload_n dX7_hook_46 rfl ?_
  refine G_aload_n dX7_hook_47 rfl ?_
  refine G_getR dX7_hook_48 fl_RX7_31 h1 rfl h2 ?_
  refine G_iload_n dX7_hook_51 rfl ?_
  refine G_iload_n dX7_hook_52 rfl ?_
  exact G_VV (as := [vR q1, vI a1, vI a2]) (st := []) n0_X7_kick dX7_hook_53 ml_RX7_168 mc_X7_kick rfl ⟨by decide, ⟨Nat.le_of_ble_eq_true rfl, Nat.le_of_ble_eq_true rfl⟩, Nat.le_of_ble_eq_true rfl⟩ h1 ⟨_, _, rfl⟩ c3 (fun u hq => kq u hq)
theorem k_X7_hook_56 {Γ : Gm} {Ret : Option Value → Wd → Prop} {a1 : Int} {p0 q1 n2 : Nat} {o2 : Option Value} {w : Wd} (kr : Ret (some (vI (wI w q1 (25 + a1)))) w) (h1 : sh w p0 = some (.inr 7) := by assumption) (h2 : wR w p0 14 = vR q1 := by assumption) (h3 : sh w q1 = some (.inl (0, n2)) := by assumption) (h4 : (0 : Int) ≤ (25 + a1) ∧ (25 + a1) < (n2 : Int) := by omega) (h5 : n2 < 2147483648 := by omega) : G Γ m_X7_hook Ret 0 0 56 [some (vR p0), some (vI a1), o2] [] w := by
  refine G_aload_n dX7_hook_56 rfl ?_
  refine G_getR dX7_hook_57 fl_RX7_31 h1 rfl h2 ?_
  refine G_bipush dX7_hook_60 (by decide +kernel) ?_
  refine G_iload_n dX7_hook_62 rfl ?_
  refine G_iadd dX7_hook_63 ?_
  refine G_iald dX7_hook_64 h3 h4 h5 ?_
  exact G_reti dX7_hook_65 trivial ⟨rfl, Nat.le_of_ble_eq_true rfl⟩ kr
theorem k_X7_loosen_0 {Γ : Gm} {Ret : Option Value → Wd → Prop} {a1 : Int} {p0 n1 : Nat} {w : Wd} (kr : Ret none (stI (stI w p0 29 (zand (wI w p0 29) (zxor (zshl 1 a1) (-1)))) p0 (25 + a1) 0)) (h1 : sh w p0 = some (.inl (0, n1)) := by assumption) (h2 : (0 : Int) ≤ 29 ∧ 29 < (n1 : Int) := by omega) (h3 : n1 < 2147483648 := by omega) (h4 : (0 : Int) ≤ (25 + a1) ∧ (25 + a1) < (n1 : Int) := by omega) : G Γ m_X7_loosen Ret 0 0 0 [some (vR p0), some (vI a1)] [] w := by
  refine G_aload_n dX7_loosen_0 rfl ?_
  refine G_bipush dX7_loosen_1 (by decide +kernel) ?_
  refine G_aload_n dX7_loosen_3 rfl ?_
  refine G_bipush dX7_loosen_4 (by decide +kernel) ?_
  refine G_iald dX7_loosen_6 h1 h2 h3 ?_
  refine G_const dX7_loosen_7 ?_
  refine G_iload_n dX7_loosen_8 rfl ?_
  refine G_ishl dX7_loosen_9 ?_
  refine G_const dX7_loosen_10 ?_
  refine G_ixor dX7_loosen_11 ?_
  refine G_iand dX7_loosen_12 ?_
  refine G_iast dX7_loosen_13 h1 h2 h3 ?_
  refine G_aload_n dX7_loosen_14 rfl ?_
  refine G_bipush dX7_loosen_15 (by decide +kernel) ?_
  refine G_iload_n dX7_loosen_17 rfl ?_
  refine G_iadd dX7_loosen_18 ?_
  refine G_const dX7_loosen_19 ?_
  refine G_iast dX7_loosen_20 h1 h4 h3 ?_
  exact G_retv dX7_loosen_21 trivial ⟨rfl, Nat.le_of_ble_eq_true rfl⟩ kr
theorem k_X7_letGo_0 {Γ : Gm} {Ret : Option Value → Wd → Prop} {a1 z1 : Int} {p0 : Nat} {w : Wd} (c1 : SpP Γ m_X7_in [vI a1, vI 0, vI 3] w z1) (kt : z1 ≠ 0 → G Γ m_X7_letGo Ret 0 0 11 [some (vR p0), some (vI a1), none] [] w) (kf : z1 = 0 → G Γ m_X7_letGo Ret 0 0 9 [some (vR p0), some (vI a1), none] [] w) (h2 : sm z1 := by omega) : G Γ m_X7_letGo Ret 0 0 0 [some (vR p0), some (vI a1), none] [] w := by
  refine G_iload_n dX7_letGo_0 rfl ?_
  refine G_const dX7_letGo_1 ?_
  refine G_const dX7_letGo_2 ?_
  refine G_SP (as := [vI a1, vI 0, vI 3]) (st := []) n0_X7_in dX7_letGo_3 ml_RX7_63 mc_X7_in rfl ⟨by decide, ⟨Nat.le_of_ble_eq_true rfl, Nat.le_of_ble_eq_true rfl⟩, Nat.le_of_ble_eq_true rfl⟩ c1 ?_
  exact G_if_ne dX7_letGo_6 (by decide) h2 kt kf
theorem k_X7_letGo_11 {Γ : Gm} {Ret : Option Value → Wd → Prop} {a1 z2 : Int} {p0 q1 : Nat} {o2 : Option Value} {w : Wd} (c3 : SpP Γ m_X7_isHooked [vR q1, vI a1] w z2) (kt : z2 ≠ 0 → G Γ m_X7_letGo Ret 0 0 25 [some (vR p0), some (vI a1), o2] [] w) (kf : z2 = 0 → G Γ m_X7_letGo Ret 0 0 22 [some (vR p0), some (vI a1), o2] [] w) (h1 : sh w p0 = some (.inr 7) := by assumption) (h2 : wR w p0 14 = vR q1 := by assumption) (h4 : sm z2 := by omega) : G Γ m_X7_letGo Ret 0 0 11 [some (vR p0), some (vI a1), o2] [] w := by
  refine G_aload_n dX7_letGo_11 rfl ?_
  refine G_getR dX7_letGo_12 fl_RX7_31 h1 rfl h2 ?_
  refine G_iload_n dX7_letGo_15 rfl ?_
  refine G_SP (as := [vR q1, vI a1]) (st := []) n0_X7_isHooked dX7_letGo_16 ml_RX7_130 mc_X7_isHooked rfl ⟨by decide, ⟨Nat.le_of_ble_eq_true rfl, Nat.le_of_ble_eq_true rfl⟩, Nat.le_of_ble_eq_true rfl⟩ c3 ?_
  exact G_if_ne dX7_letGo_19 (by decide) h4 kt kf
theorem k_X7_letGo_9 {Γ : Gm} {Ret : Option Value → Wd → Prop} {o0 o1 o2 : Option Value} {w : Wd} (kr : Ret (some (vI (-1))) w) : G Γ m_X7_letGo Ret 0 0 9 [o0, o1, o2] [] w := by
  refine G_const dX7_letGo_9 ?_
  exact G_reti dX7_letGo_10 trivial ⟨rfl, Nat.le_of_ble_eq_true rfl⟩ kr
theorem k_X7_letGo_25 {Γ : Gm} {Ret : Option Value → Wd → Prop} {a1 : Int} {p0 : Nat} {o2 : Option Value} {w : Wd} {Q : Wd → Prop} (c2 : SpV Γ m_X7_note [vR p0] w Q) (kq : ∀ u : Wd, Q u → G Γ m_X7_letGo Ret 0 0 29 [some (vR p0), some (vI a1), o2] [] u) (h1 : sh w p0 = some (.inr 7) := by assumption) : G Γ m_X7_letGo Ret 0 0 25 [some (vR p0), some (vI a1), o2] [] w := by
  refine G_aload_n dX7_letGo_25 rfl ?_
  exact G_VV (as := []) (st := []) n0_X7_note dX7_letGo_26 ml_RX7_148 mc_X7_note rfl ⟨by decide, ⟨Nat.le_of_ble_eq_true rfl, Nat.le_of_ble_eq_true rfl⟩, Nat.le_of_ble_eq_true rfl⟩ h1 ⟨_, _, rfl⟩ c2 (fun u hq => kq u hq)
theorem k_X7_letGo_22 {Γ : Gm} {Ret : Option Value → Wd → Prop} {o0 o1 o2 : Option Value} {w : Wd} (kr : Ret (some (vI (-2))) w) : G Γ m_X7_letGo Ret 0 0 22 [o0, o1, o2] [] w := by
  refine G_bipush dX7_letGo_22 (by decide +kernel) ?_
  exact G_reti dX7_letGo_24 trivial ⟨rfl, Nat.le_of_ble_eq_true rfl⟩ kr
theorem k_X7_letGo_29 {Γ : Gm} {Ret : Option Value → Wd → Prop} {a1 : Int} {p0 q1 n2 : Nat} {o2 : Option Value} {w : Wd} {Q : Wd → Prop} (c6 : SpV Γ m_X7_loosen [vR q1, vI a1] w Q) (kq : ∀ u : Wd, Q u → G Γ m_X7_letGo Ret 0 0 47 [some (vR p0), some (vI a1), some (vI (wI w q1 (25 + a1)))] [] u) (h1 : sh w p0 = some (.inr 7) := by assumption) (h2 : wR w p0 14 = vR q1 := by assumption) (h3 : sh w q1 = some (.inl (0, n2)) := by assumption) (h4 : (0 : Int) ≤ (25 + a1) ∧ (25 + a1) < (n2 : Int) := by omega) (h5 : n2 < 2147483648 := by omega) : G Γ m_X7_letGo Ret 0 0 29 [some (vR p0), some (vI a1), o2] [] w := by
  refine G_aload_n dX7_letGo_29 rfl ?_
  refine G_getR dX7_letGo_30 fl_RX7_31 h1 rfl h2 ?_
  refine G_bipush dX7_letGo_33 (by decide +kernel) ?_
  refine G_iload_n dX7_letGo_35 rfl ?_
  refine G_iadd dX7_letGo_36 ?_
  refine G_iald dX7_letGo_37 h3 h4 h5 ?_
  refine G_istore_n dX7_letGo_38 (by decide) rfl ?_
  refine G_aload_n dX7_letGo_39 rfl ?_
  refine G_getR dX7_letGo_40 fl_RX7_31 h1 rfl h2 ?_
  refine G_iload_n dX7_letGo_43 rfl ?_
  exact G_SV (as := [vR q1, vI a1]) (st := []) n0_X7_loosen dX7_letGo_44 ml_RX7_172 mc_X7_loosen rfl ⟨by decide, ⟨Nat.le_of_ble_eq_true rfl, Nat.le_of_ble_eq_true rfl⟩, Nat.le_of_ble_eq_true rfl⟩ c6 (fun u hq => kq u hq)
theorem k_X7_letGo_47 {Γ : Gm} {Ret : Option Value → Wd → Prop} {a2 : Int} {o0 o1 : Option Value} {w : Wd} (kr : Ret (some (vI a2)) w) : G Γ m_X7_letGo Ret 0 0 47 [o0, o1, some (vI a2)] [] w := by
  refine G_iload_n dX7_letGo_47 rfl ?_
  exact G_reti dX7_letGo_48 trivial ⟨rfl, Nat.le_of_ble_eq_true rfl⟩ kr
theorem k_X7_passMonth_0 {Γ : Gm} {Ret : Option Value → Wd → Prop} {z2 : Int} {p0 p1 n1 : Nat} {w : Wd} (c5 : SpP Γ m_X7_dampBy [vR p0, vI (wI w p1 31)] w z2) (km : G Γ m_X7_passMonth Ret 0 0 13 [some (vR p0), some (vR p1), some (vI (Int.tdiv z2 3)), some (vI 0)] [] w) (h1 : sh w p1 = some (.inl (0, n1)) := by assumption) (h2 : (0 : Int) ≤ 31 ∧ 31 < (n1 : Int) := by omega) (h3 : n1 < 2147483648 := by omega) (h4 : sh w p0 = some (.inr 7) := by assumption) (h6 : sm z2 := by omega) : G Γ m_X7_passMonth Ret 0 0 0 [some (vR p0), some (vR p1), none, none] [] w := by
  refine G_aload_n dX7_passMonth_0 rfl ?_
  refine G_aload_n dX7_passMonth_1 rfl ?_
  refine G_bipush dX7_passMonth_2 (by decide +kernel) ?_
  refine G_iald dX7_passMonth_4 h1 h2 h3 ?_
  refine G_VP (as := [vI (wI w p1 31)]) (st := []) n0_X7_dampBy dX7_passMonth_5 ml_RX7_134 mc_X7_dampBy rfl ⟨by decide, ⟨Nat.le_of_ble_eq_true rfl, Nat.le_of_ble_eq_true rfl⟩, Nat.le_of_ble_eq_true rfl⟩ h4 ⟨_, _, rfl⟩ c5 ?_
  refine G_const dX7_passMonth_8 ?_
  refine G_idiv dX7_passMonth_9 h6 (by decide) (by decide) (by decide) ?_
  refine G_istore_n dX7_passMonth_10 (by decide) rfl ?_
  refine G_const dX7_passMonth_11 ?_
  refine G_istore_n dX7_passMonth_12 (by decide) rfl ?_
  exact km
theorem k_X7_passMonth_13 {Γ : Gm} {Ret : Option Value → Wd → Prop} {a2 a3 : Int} {p1 : Nat} {o0 : Option Value} {w : Wd} (kt : 4 ≤ a3 → G Γ m_X7_passMonth Ret 0 0 52 [o0, some (vR p1), some (vI a2), some (vI a3)] [] w) (kf : ¬ (4 ≤ a3) → G Γ m_X7_passMonth Ret 0 0 18 [o0, some (vR p1), some (vI a2), some (vI a3)] [] w) (h1 : sm a3 := by omega) : G Γ m_X7_passMonth Ret 0 0 13 [o0, some (vR p1), some (vI a2), some (vI a3)] [] w := by
  refine G_iload_n dX7_passMonth_13 rfl ?_
  refine G_const dX7_passMonth_14 ?_
  exact G_icmp_ge dX7_passMonth_15 (by decide) h1 (by decide) kt kf
theorem k_X7_passMonth_52 {Γ : Gm} {Ret : Option Value → Wd → Prop} {p1 n1 : Nat} {o0 o2 o3 : Option Value} {w : Wd} (kr : Ret none (stI w p1 31 ((wI w p1 31) + 1))) (h1 : sh w p1 = some (.inl (0, n1)) := by assumption) (h2 : (0 : Int) ≤ 31 ∧ 31 < (n1 : Int) := by omega) (h3 : n1 < 2147483648 := by omega) : G Γ m_X7_passMonth Ret 0 0 52 [o0, some (vR p1), o2, o3] [] w := by
  refine G_aload_n dX7_passMonth_52 rfl ?_
  refine G_bipush dX7_passMonth_53 (by decide +kernel) ?_
  refine G_dup2 dX7_passMonth_55 rfl rfl ?_
  refine G_iald dX7_passMonth_56 h1 h2 h3 ?_
  refine G_const dX7_passMonth_57 ?_
  refine G_iadd dX7_passMonth_58 ?_
  refine G_iast dX7_passMonth_59 h1 h2 h3 ?_
  exact G_retv dX7_passMonth_60 trivial ⟨rfl, Nat.le_of_ble_eq_true rfl⟩ kr
theorem k_X7_passMonth_18 {Γ : Gm} {Ret : Option Value → Wd → Prop} {a2 a3 : Int} {p1 n1 : Nat} {o0 : Option Value} {w : Wd} (kt : (wI w p1 (25 + a3)) ≤ a2 → G Γ m_X7_passMonth Ret 0 0 44 [o0, some (vR p1), some (vI a2), some (vI a3)] [vI (25 + a3), vR p1] w) (kf : ¬ ((wI w p1 (25 + a3)) ≤ a2) → G Γ m_X7_passMonth Ret 0 0 33 [o0, some (vR p1), some (vI a2), some (vI a3)] [vI (25 + a3), vR p1] w) (h1 : sh w p1 = some (.inl (0, n1)) := by assumption) (h2 : (0 : Int) ≤ (25 + a3) ∧ (25 + a3) < (n1 : Int) := by omega) (h3 : n1 < 2147483648 := by omega) (h4 : sm (wI w p1 (25 + a3)) := by omega) (h5 : sm a2 := by omega) : G Γ m_X7_passMonth Ret 0 0 18 [o0, some (vR p1), some (vI a2), some (vI a3)] [] w := by
  refine G_aload_n dX7_passMonth_18 rfl ?_
  refine G_bipush dX7_passMonth_19 (by decide +kernel) ?_
  refine G_iload_n dX7_passMonth_21 rfl ?_
  refine G_iadd dX7_passMonth_22 ?_
  refine G_aload_n dX7_passMonth_23 rfl ?_
  refine G_bipush dX7_passMonth_24 (by decide +kernel) ?_
  refine G_iload_n dX7_passMonth_26 rfl ?_
  refine G_iadd dX7_passMonth_27 ?_
  refine G_iald dX7_passMonth_28 h1 h2 h3 ?_
  refine G_iload_n dX7_passMonth_29 rfl ?_
  exact G_icmp_le dX7_passMonth_30 (by decide) h4 h5 kt kf
theorem k_X7_passMonth_44 {Γ : Gm} {Ret : Option Value → Wd → Prop} {a2 a3 s1 : Int} {p1 t0 n1 : Nat} {o0 : Option Value} {w : Wd} (km : G Γ m_X7_passMonth Ret 0 0 13 [o0, some (vR p1), some (vI a2), some (vI (a3 + 1))] [] (stI w t0 s1 0)) (h1 : sh w t0 = some (.inl (0, n1)) := by assumption) (h2 : (0 : Int) ≤ s1 ∧ s1 < (n1 : Int) := by omega) (h3 : n1 < 2147483648 := by omega) : G Γ m_X7_passMonth Ret 0 0 44 [o0, some (vR p1), some (vI a2), some (vI a3)] [vI s1, vR t0] w := by
  refine G_const dX7_passMonth_44 ?_
  refine G_iast dX7_passMonth_45 h1 h2 h3 ?_
  refine G_iinc dX7_passMonth_46 (by decide) rfl rfl ?_
  refine G_goto dX7_passMonth_49 (tgt := 13) (by decide) ?_
  exact km
theorem k_X7_passMonth_33 {Γ : Gm} {Ret : Option Value → Wd → Prop} {a2 a3 s1 : Int} {p1 t0 n1 n2 : Nat} {o0 : Option Value} {w : Wd} (km : G Γ m_X7_passMonth Ret 0 0 13 [o0, some (vR p1), some (vI a2), some (vI (a3 + 1))] [] (stI w t0 s1 ((wI w p1 (25 + a3)) - a2))) (h1 : sh w p1 = some (.inl (0, n1)) := by assumption) (h2 : (0 : Int) ≤ (25 + a3) ∧ (25 + a3) < (n1 : Int) := by omega) (h3 : n1 < 2147483648 := by omega) (h4 : sh w t0 = some (.inl (0, n2)) := by assumption) (h5 : (0 : Int) ≤ s1 ∧ s1 < (n2 : Int) := by omega) (h6 : n2 < 2147483648 := by omega) : G Γ m_X7_passMonth Ret 0 0 33 [o0, some (vR p1), some (vI a2), some (vI a3)] [vI s1, vR t0] w := by
  refine G_aload_n dX7_passMonth_33 rfl ?_
  refine G_bipush dX7_passMonth_34 (by decide +kernel) ?_
  refine G_iload_n dX7_passMonth_36 rfl ?_
  refine G_iadd dX7_passMonth_37 ?_
  refine G_iald dX7_passMonth_38 h1 h2 h3 ?_
  refine G_iload_n dX7_passMonth_39 rfl ?_
  refine G_isub dX7_passMonth_40 ?_
  refine G_goto dX7_passMonth_41 (tgt := 45) (by decide) ?_
  refine G_iast dX7_passMonth_45 h4 h5 h6 ?_
  refine G_iinc dX7_passMonth_46 (by decide) rfl rfl ?_
  refine G_goto dX7_passMonth_49 (tgt := 13) (by decide) ?_
  exact km
theorem k_X7_pass_0 {Γ : Gm} {Ret : Option Value → Wd → Prop} {a1 z1 : Int} {p0 : Nat} {w : Wd} (c1 : SpP Γ m_X7_in [vI a1, vI 1, vI 60] w z1) (kt : z1 ≠ 0 → G Γ m_X7_pass Ret 0 0 12 [some (vR p0), some (vI a1), none] [] w) (kf : z1 = 0 → G Γ m_X7_pass Ret 0 0 10 [some (vR p0), some (vI a1), none] [] w) (h2 : sm z1 := by omega) : G Γ m_X7_pass Ret 0 0 0 [some (vR p0), some (vI a1), none] [] w := by
  refine G_iload_n dX7_pass_0 rfl ?_
  refine G_const dX7_pass_1 ?_
  refine G_bipush dX7_pass_2 (by decide +kernel) ?_
  refine G_SP (as := [vI a1, vI 1, vI 60]) (st := []) n0_X7_in dX7_pass_4 ml_RX7_63 mc_X7_in rfl ⟨by decide, ⟨Nat.le_of_ble_eq_true rfl, Nat.le_of_ble_eq_true rfl⟩, Nat.le_of_ble_eq_true rfl⟩ c1 ?_
  exact G_if_ne dX7_pass_7 (by decide) h2 kt kf
theorem k_X7_pass_12 {Γ : Gm} {Ret : Option Value → Wd → Prop} {a1 : Int} {p0 q1 n2 : Nat} {o2 : Option Value} {w : Wd} (kt : ((wI w q1 31) + a1) ≤ 999 → G Γ m_X7_pass Ret 0 0 30 [some (vR p0), some (vI a1), o2] [] w) (kf : ¬ (((wI w q1 31) + a1) ≤ 999) → G Γ m_X7_pass Ret 0 0 27 [some (vR p0), some (vI a1), o2] [] w) (h1 : sh w p0 = some (.inr 7) := by assumption) (h2 : wR w p0 14 = vR q1 := by assumption) (h3 : sh w q1 = some (.inl (0, n2)) := by assumption) (h4 : (0 : Int) ≤ 31 ∧ 31 < (n2 : Int) := by omega) (h5 : n2 < 2147483648 := by omega) (h6 : sm ((wI w q1 31) + a1) := by omega) : G Γ m_X7_pass Ret 0 0 12 [some (vR p0), some (vI a1), o2] [] w := by
  refine G_aload_n dX7_pass_12 rfl ?_
  refine G_getR dX7_pass_13 fl_RX7_31 h1 rfl h2 ?_
  refine G_bipush dX7_pass_16 (by decide +kernel) ?_
  refine G_iald dX7_pass_18 h3 h4 h5 ?_
  refine G_iload_n dX7_pass_19 rfl ?_
  refine G_iadd dX7_pass_20 ?_
  refine G_sipush dX7_pass_21 (by decide +kernel) ?_
  exact G_icmp_le dX7_pass_24 (by decide) h6 (by decide) kt kf
theorem k_X7_pass_10 {Γ : Gm} {Ret : Option Value → Wd → Prop} {o0 o1 o2 : Option Value} {w : Wd} (kr : Ret (some (vI (-1))) w) : G Γ m_X7_pass Ret 0 0 10 [o0, o1, o2] [] w := by
  refine G_const dX7_pass_10 ?_
  exact G_reti dX7_pass_11 trivial ⟨rfl, Nat.le_of_ble_eq_true rfl⟩ kr
theorem k_X7_pass_30 {Γ : Gm} {Ret : Option Value → Wd → Prop} {a1 : Int} {p0 : Nat} {o2 : Option Value} {w : Wd} {Q : Wd → Prop} (c2 : SpV Γ m_X7_note [vR p0] w Q) (kq : ∀ u : Wd, Q u → G Γ m_X7_pass Ret 0 0 34 [some (vR p0), some (vI a1), o2] [] u) (h1 : sh w p0 = some (.inr 7) := by assumption) : G Γ m_X7_pass Ret 0 0 30 [some (vR p0), some (vI a1), o2] [] w := by
  refine G_aload_n dX7_pass_30 rfl ?_
  exact G_VV (as := []) (st := []) n0_X7_note dX7_pass_31 ml_RX7_148 mc_X7_note rfl ⟨by decide, ⟨Nat.le_of_ble_eq_true rfl, Nat.le_of_ble_eq_true rfl⟩, Nat.le_of_ble_eq_true rfl⟩ h1 ⟨_, _, rfl⟩ c2 (fun u hq => kq u hq)
theorem k_X7_pass_27 {Γ : Gm} {Ret : Option Value → Wd → Prop} {o0 o1 o2 : Option Value} {w : Wd} (kr : Ret (some (vI (-2))) w) : G Γ m_X7_pass Ret 0 0 27 [o0, o1, o2] [] w := by
  refine G_bipush dX7_pass_27 (by decide +kernel) ?_
  exact G_reti dX7_pass_29 trivial ⟨rfl, Nat.le_of_ble_eq_true rfl⟩ kr
theorem k_X7_pass_34 {Γ : Gm} {Ret : Option Value → Wd → Prop} {a1 : Int} {p0 : Nat} {o2 : Option Value} {w : Wd} (km : G Γ m_X7_pass Ret 0 0 36 [some (vR p0), some (vI a1), some (vI 0)] [] w) : G Γ m_X7_pass Ret 0 0 34 [some (vR p0), some (vI a1), o2] [] w := by
  refine G_const dX7_pass_34 ?_
  refine G_istore_n dX7_pass_35 (by decide) rfl ?_
  exact km
theorem k_X7_pass_36 {Γ : Gm} {Ret : Option Value → Wd → Prop} {a1 a2 : Int} {p0 : Nat} {w : Wd} (kt : a1 ≤ a2 → G Γ m_X7_pass Ret 0 0 55 [some (vR p0), some (vI a1), some (vI a2)] [] w) (kf : ¬ (a1 ≤ a2) → G Γ m_X7_pass Ret 0 0 41 [some (vR p0), some (vI a1), some (vI a2)] [] w) (h1 : sm a2 := by omega) (h2 : sm a1 := by omega) : G Γ m_X7_pass Ret 0 0 36 [some (vR p0), some (vI a1), some (vI a2)] [] w := by
  refine G_iload_n dX7_pass_36 rfl ?_
  refine G_iload_n dX7_pass_37 rfl ?_
  exact G_icmp_ge dX7_pass_38 (by decide) h1 h2 kt kf
theorem k_X7_pass_55 {Γ : Gm} {Ret : Option Value → Wd → Prop} {p0 q1 n2 : Nat} {o1 o2 : Option Value} {w : Wd} (kr : Ret (some (vI (wI w q1 31))) w) (h1 : sh w p0 = some (.inr 7) := by assumption) (h2 : wR w p0 14 = vR q1 := by assumption) (h3 : sh w q1 = some (.inl (0, n2)) := by assumption) (h4 : (0 : Int) ≤ 31 ∧ 31 < (n2 : Int) := by omega) (h5 : n2 < 2147483648 := by omega) : G Γ m_X7_pass Ret 0 0 55 [some (vR p0), o1, o2] [] w := by
  refine G_aload_n dX7_pass_55 rfl ?_
  refine G_getR dX7_pass_56 fl_RX7_31 h1 rfl h2 ?_
  refine G_bipush dX7_pass_59 (by decide +kernel) ?_
  refine G_iald dX7_pass_61 h3 h4 h5 ?_
  exact G_reti dX7_pass_62 trivial ⟨rfl, Nat.le_of_ble_eq_true rfl⟩ kr
theorem k_X7_pass_41 {Γ : Gm} {Ret : Option Value → Wd → Prop} {a1 a2 : Int} {p0 q1 : Nat} {w : Wd} {Q : Wd → Prop} (c3 : SpV Γ m_X7_passMonth [vR p0, vR q1] w Q) (kq : ∀ u : Wd, Q u → G Γ m_X7_pass Ret 0 0 49 [some (vR p0), some (vI a1), some (vI a2)] [] u) (h1 : sh w p0 = some (.inr 7) := by assumption) (h2 : wR w p0 14 = vR q1 := by assumption) : G Γ m_X7_pass Ret 0 0 41 [some (vR p0), some (vI a1), some (vI a2)] [] w := by
  refine G_aload_n dX7_pass_41 rfl ?_
  refine G_aload_n dX7_pass_42 rfl ?_
  refine G_getR dX7_pass_43 fl_RX7_31 h1 rfl h2 ?_
  exact G_VV (as := [vR q1]) (st := []) n0_X7_passMonth dX7_pass_46 ml_RX7_176 mc_X7_passMonth rfl ⟨by decide, ⟨Nat.le_of_ble_eq_true rfl, Nat.le_of_ble_eq_true rfl⟩, Nat.le_of_ble_eq_true rfl⟩ h1 ⟨_, _, rfl⟩ c3 (fun u hq => kq u hq)
theorem k_X7_pass_49 {Γ : Gm} {Ret : Option Value → Wd → Prop} {a1 a2 : Int} {p0 : Nat} {w : Wd} (km : G Γ m_X7_pass Ret 0 0 36 [some (vR p0), some (vI a1), some (vI (a2 + 1))] [] w) : G Γ m_X7_pass Ret 0 0 49 [some (vR p0), some (vI a1), some (vI a2)] [] w := by
  refine G_iinc dX7_pass_49 (by decide) rfl rfl ?_
  refine G_goto dX7_pass_52 (tgt := 36) (by decide) ?_
  exact km
theorem k_X7_undo_0 {Γ : Gm} {Ret : Option Value → Wd → Prop} {p0 : Nat} {w : Wd} (kt : (wI w p0 17) ≠ 0 → G Γ m_X7_undo Ret 0 0 10 [some (vR p0)] [] w) (kf : (wI w p0 17) = 0 → G Γ m_X7_undo Ret 0 0 7 [some (vR p0)] [] w) (h1 : sh w p0 = some (.inr 7) := by assumption) (h2 : sm (wI w p0 17) := by omega) : G Γ m_X7_undo Ret 0 0 0 [some (vR p0)] [] w := by
  refine G_aload_n dX7_undo_0 rfl ?_
  refine G_getI dX7_undo_1 fl_RX7_117 h1 rfl ?_
  exact G_if_ne dX7_undo_4 (by decide) h2 kt kf
theorem k_X7_undo_10 {Γ : Gm} {Ret : Option Value → Wd → Prop} {p0 q1 q2 : Nat} {w : Wd} {Q : Wd → Prop} (c4 : SpV Γ m_X7_bring [vR q1, vI (32 * ((wI w p0 17) - 1)), vR q2, vI 0, vI 32] (stI w p0 17 ((wI w p0 17) - 1)) Q) (kq : ∀ u : Wd, Q u → G Γ m_X7_undo Ret 0 0 41 [some (vR p0)] [] u) (h1 : sh w p0 = some (.inr 7) := by assumption) (h2 : wR w p0 16 = vR q1 := by assumption) (h3 : wR w p0 14 = vR q2 := by assumption) : G Γ m_X7_undo Ret 0 0 10 [some (vR p0)] [] w := by
  refine G_aload_n dX7_undo_10 rfl ?_
  refine G_dup dX7_undo_11 rfl ?_
  refine G_getI dX7_undo_12 fl_RX7_117 h1 rfl ?_
  refine G_const dX7_undo_15 ?_
  refine G_isub dX7_undo_16 ?_
  refine G_putI dX7_undo_17 fl_RX7_117 h1 rfl ?_
  refine G_aload_n dX7_undo_20 rfl ?_
  refine G_getR dX7_undo_21 fl_RX7_37 h1 rfl h2 ?_
  refine G_bipush dX7_undo_24 (by decide +kernel) ?_
  refine G_aload_n dX7_undo_26 rfl ?_
  refine G_getI dX7_undo_27 fl_RX7_117 h1 rfl ?_
  rw [wI_hit]
  refine G_imul dX7_undo_30 ?_
  refine G_aload_n dX7_undo_31 rfl ?_
  refine G_getR dX7_undo_32 fl_RX7_31 h1 rfl h3 ?_
  refine G_const dX7_undo_35 ?_
  refine G_bipush dX7_undo_36 (by decide +kernel) ?_
  exact G_SV (as := [vR q1, vI (32 * ((wI w p0 17) - 1)), vR q2, vI 0, vI 32]) (st := []) n0_X7_bring dX7_undo_38 ml_RX7_110 mc_X7_bring rfl ⟨by decide, ⟨Nat.le_of_ble_eq_true rfl, Nat.le_of_ble_eq_true rfl⟩, Nat.le_of_ble_eq_true rfl⟩ c4 (fun u hq => kq u hq)
theorem k_X7_undo_7 {Γ : Gm} {Ret : Option Value → Wd → Prop} {o0 : Option Value} {w : Wd} (kr : Ret (some (vI (-2))) w) : G Γ m_X7_undo Ret 0 0 7 [o0] [] w := by
  refine G_bipush dX7_undo_7 (by decide +kernel) ?_
  exact G_reti dX7_undo_9 trivial ⟨rfl, Nat.le_of_ble_eq_true rfl⟩ kr
theorem k_X7_undo_41 {Γ : Gm} {Ret : Option Value → Wd → Prop} {p0 : Nat} {w : Wd} (kr : Ret (some (vI (wI w p0 17))) w) (h1 : sh w p0 = some (.inr 7) := by assumption) : G Γ m_X7_undo Ret 0 0 41 [some (vR p0)] [] w := by
  refine G_aload_n dX7_undo_41 rfl ?_
  refine G_getI dX7_undo_42 fl_RX7_117 h1 rfl ?_
  exact G_reti dX7_undo_45 trivial ⟨rfl, Nat.le_of_ble_eq_true rfl⟩ kr
theorem k_X7_seamAt_0 {Γ : Gm} {Ret : Option Value → Wd → Prop} {a1 : Int} {p0 q1 n2 : Nat} {w : Wd} (kr : Ret (some (vI ((wI w q1 ((3 * a1) + 1)) + (wI w q1 ((3 * a1) + 2))))) w) (h1 : sh w p0 = some (.inr 7) := by assumption) (h2 : wR w p0 11 = vR q1 := by assumption) (h3 : sh w q1 = some (.inl (0, n2)) := by assumption) (h4 : (0 : Int) ≤ ((3 * a1) + 1) ∧ ((3 * a1) + 1) < (n2 : Int) := by omega) (h5 : n2 < 2147483648 := by omega) (h6 : (0 : Int) ≤ ((3 * a1) + 2) ∧ ((3 * a1) + 2) < (n2 : Int) := by omega) : G Γ m_X7_seamAt Ret 0 0 0 [some (vR p0), some (vI a1)] [] w := by
  refine G_aload_n dX7_seamAt_0 rfl ?_
  refine G_getR dX7_seamAt_1 fl_RX7_22 h1 rfl h2 ?_
  refine G_const dX7_seamAt_4 ?_
  refine G_iload_n dX7_seamAt_5 rfl ?_
  refine G_imul dX7_seamAt_6 ?_
  refine G_const dX7_seamAt_7 ?_
  refine G_iadd dX7_seamAt_8 ?_
  refine G_iald dX7_seamAt_9 h3 h4 h5 ?_
  refine G_aload_n dX7_seamAt_10 rfl ?_
  refine G_getR dX7_seamAt_11 fl_RX7_22 h1 rfl h2 ?_
  refine G_const dX7_seamAt_14 ?_
  refine G_iload_n dX7_seamAt_15 rfl ?_
  refine G_imul dX7_seamAt_16 ?_
  refine G_const dX7_seamAt_17 ?_
  refine G_iadd dX7_seamAt_18 ?_
  refine G_iald dX7_seamAt_19 h3 h6 h5 ?_
  refine G_iadd dX7_seamAt_20 ?_
  exact G_reti dX7_seamAt_21 trivial ⟨rfl, Nat.le_of_ble_eq_true rfl⟩ kr
theorem k_X7_covers_0 {Γ : Gm} {Ret : Option Value → Wd → Prop} {a1 a2 : Int} {p0 : Nat} {w : Wd} (km : G Γ m_X7_covers Ret 0 0 11 [some (vR p0), some (vI a1), some (vI a2), some (vI a2), some (vI 0), some (vI 0), some (vI 0)] [] w) : G Γ m_X7_covers Ret 0 0 0 [some (vR p0), some (vI a1), some (vI a2), none, none, none, none] [] w := by
  refine G_iload_n dX7_covers_0 rfl ?_
  refine G_istore_n dX7_covers_1 (by decide) rfl ?_
  refine G_const dX7_covers_2 ?_
  refine G_istore dX7_covers_3 (by decide) rfl ?_
  refine G_const dX7_covers_5 ?_
  refine G_istore dX7_covers_6 (by decide) rfl ?_
  refine G_const dX7_covers_8 ?_
  refine G_istore dX7_covers_9 (by decide) rfl ?_
  exact km
theorem k_X7_covers_11 {Γ : Gm} {Ret : Option Value → Wd → Prop} {a1 a3 a4 a5 a6 : Int} {p0 : Nat} {o2 : Option Value} {w : Wd} (kt : a1 ≤ a6 → G Γ m_X7_covers Ret 0 0 88 [some (vR p0), some (vI a1), o2, some (vI a3), some (vI a4), some (vI a5), some (vI a6)] [] w) (kf : ¬ (a1 ≤ a6) → G Γ m_X7_covers Ret 0 0 17 [some (vR p0), some (vI a1), o2, some (vI a3), some (vI a4), some (vI a5), some (vI a6)] [] w) (h1 : sm a6 := by omega) (h2 : sm a1 := by omega) : G Γ m_X7_covers Ret 0 0 11 [some (vR p0), some (vI a1), o2, some (vI a3), some (vI a4), some (vI a5), some (vI a6)] [] w := by
  refine G_iload dX7_covers_11 rfl ?_
  refine G_iload_n dX7_covers_13 rfl ?_
  exact G_icmp_ge dX7_covers_14 (by decide) h1 h2 kt kf
theorem k_X7_covers_88 {Γ : Gm} {Ret : Option Value → Wd → Prop} {a1 a3 a4 a5 : Int} {p0 : Nat} {o2 o6 : Option Value} {w : Wd} (kt : a3 ≠ (wI w p0 9) → G Γ m_X7_covers Ret 0 0 109 [some (vR p0), some (vI a1), o2, some (vI a3), some (vI a4), some (vI a5), o6] [] w) (kf : a3 = (wI w p0 9) → G Γ m_X7_covers Ret 0 0 96 [some (vR p0), some (vI a1), o2, some (vI a3), some (vI a4), some (vI a5), o6] [] w) (h1 : sh w p0 = some (.inr 7) := by assumption) (h2 : sm a3 := by omega) (h3 : sm (wI w p0 9) := by omega) : G Γ m_X7_covers Ret 0 0 88 [some (vR p0), some (vI a1), o2, some (vI a3), some (vI a4), some (vI a5), o6] [] w := by
  refine G_iload_n dX7_covers_88 rfl ?_
  refine G_aload_n dX7_covers_89 rfl ?_
  refine G_getI dX7_covers_90 fl_RX7_56 h1 rfl ?_
  exact G_icmp_ne dX7_covers_93 (by decide) h2 h3 kt kf
theorem k_X7_covers_17 {Γ : Gm} {Ret : Option Value → Wd → Prop} {a1 a3 a4 a5 a6 : Int} {p0 q1 n2 : Nat} {o2 : Option Value} {w : Wd} (kt : (a3 + (wI w q1 a6)) ≤ (wI w p0 9) → G Γ m_X7_covers Ret 0 0 35 [some (vR p0), some (vI a1), o2, some (vI a3), some (vI a4), some (vI a5), some (vI a6)] [] w) (kf : ¬ ((a3 + (wI w q1 a6)) ≤ (wI w p0 9)) → G Γ m_X7_covers Ret 0 0 33 [some (vR p0), some (vI a1), o2, some (vI a3), some (vI a4), some (vI a5), some (vI a6)] [] w) (h1 : sh w p0 = some (.inr 7) := by assumption) (h2 : wR w p0 22 = vR q1 := by assumption) (h3 : sh w q1 = some (.inl (0, n2)) := by assumption) (h4 : (0 : Int) ≤ a6 ∧ a6 < (n2 : Int) := by omega) (h5 : n2 < 2147483648 := by omega) (h6 : sm (a3 + (wI w q1 a6)) := by omega) (h7 : sm (wI w p0 9) := by omega) : G Γ m_X7_covers Ret 0 0 17 [some (vR p0), some (vI a1), o2, some (vI a3), some (vI a4), some (vI a5), some (vI a6)] [] w := by
  refine G_iload_n dX7_covers_17 rfl ?_
  refine G_aload_n dX7_covers_18 rfl ?_
  refine G_getR dX7_covers_19 fl_RX7_46 h1 rfl h2 ?_
  refine G_iload dX7_covers_22 rfl ?_
  refine G_iald dX7_covers_24 h3 h4 h5 ?_
  refine G_iadd dX7_covers_25 ?_
  refine G_aload_n dX7_covers_26 rfl ?_
  refine G_getI dX7_covers_27 fl_RX7_56 h1 rfl ?_
  exact G_icmp_le dX7_covers_30 (by decide) h6 h7 kt kf
theorem k_X7_covers_109 {Γ : Gm} {Ret : Option Value → Wd → Prop} {o0 o1 o2 o3 o4 o5 o6 : Option Value} {w : Wd} (kr : Ret (some (vI 0)) w) : G Γ m_X7_covers Ret 0 0 109 [o0, o1, o2, o3, o4, o5, o6] [] w := by
  refine G_const dX7_covers_109 ?_
  exact G_reti dX7_covers_110 (Or.inl rfl) ⟨rfl, Nat.le_of_ble_eq_true rfl⟩ kr
theorem k_X7_covers_96 {Γ : Gm} {Ret : Option Value → Wd → Prop} {a1 a4 a5 z2 : Int} {p0 q1 : Nat} {o2 o3 o6 : Option Value} {w : Wd} (c3 : SpP Γ m_X7_rollIn [vR p0, vR q1] w z2) (kt : a4 ≤ z2 → G Γ m_X7_covers Ret 0 0 111 [some (vR p0), some (vI a1), o2, o3, some (vI a4), some (vI a5), o6] [] w) (kf : ¬ (a4 ≤ z2) → G Γ m_X7_covers Ret 0 0 109 [some (vR p0), some (vI a1), o2, o3, some (vI a4), some (vI a5), o6] [] w) (h1 : sh w p0 = some (.inr 7) := by assumption) (h2 : wR w p0 14 = vR q1 := by assumption) (h4 : sm a4 := by omega) (h5 : sm z2 := by omega) : G Γ m_X7_covers Ret 0 0 96 [some (vR p0), some (vI a1), o2, o3, some (vI a4), some (vI a5), o6] [] w := by
  refine G_iload dX7_covers_96 rfl ?_
  refine G_aload_n dX7_covers_98 rfl ?_
  refine G_aload_n dX7_covers_99 rfl ?_
  refine G_getR dX7_covers_100 fl_RX7_31 h1 rfl h2 ?_
  refine G_VP (as := [vR q1]) (st := [vI a4]) n0_X7_rollIn dX7_covers_103 ml_RX7_145 mc_X7_rollIn rfl ⟨by decide, ⟨Nat.le_of_ble_eq_true rfl, Nat.le_of_ble_eq_true rfl⟩, Nat.le_of_ble_eq_true rfl⟩ h1 ⟨_, _, rfl⟩ c3 ?_
  exact G_icmp_le dX7_covers_106 (by decide) h4 h5 kt kf
theorem k_X7_covers_35 {Γ : Gm} {Ret : Option Value → Wd → Prop} {a1 a3 a4 a5 a6 : Int} {p0 : Nat} {o2 : Option Value} {w : Wd} (kt : a3 ≤ 0 → G Γ m_X7_covers Ret 0 0 51 [some (vR p0), some (vI a1), o2, some (vI a3), some (vI a4), some (vI a5), some (vI a6)] [vI a5] w) (kf : ¬ (a3 ≤ 0) → G Γ m_X7_covers Ret 0 0 41 [some (vR p0), some (vI a1), o2, some (vI a3), some (vI a4), some (vI a5), some (vI a6)] [vI a5] w) (h1 : sm a3 := by omega) : G Γ m_X7_covers Ret 0 0 35 [some (vR p0), some (vI a1), o2, some (vI a3), some (vI a4), some (vI a5), some (vI a6)] [] w := by
  refine G_iload dX7_covers_35 rfl ?_
  refine G_iload_n dX7_covers_37 rfl ?_
  exact G_if_le dX7_covers_38 (by decide) h1 kt kf
theorem k_X7_covers_33 {Γ : Gm} {Ret : Option Value → Wd → Prop} {o0 o1 o2 o3 o4 o5 o6 : Option Value} {w : Wd} (kr : Ret (some (vI 0)) w) : G Γ m_X7_covers Ret 0 0 33 [o0, o1, o2, o3, o4, o5, o6] [] w := by
  refine G_const dX7_covers_33 ?_
  exact G_reti dX7_covers_34 (Or.inl rfl) ⟨rfl, Nat.le_of_ble_eq_true rfl⟩ kr
theorem k_X7_covers_111 {Γ : Gm} {Ret : Option Value → Wd → Prop} {a1 a4 a5 : Int} {p0 : Nat} {o2 o3 o6 : Option Value} {w : Wd} (kt : (wI w p0 25) < 0 → G Γ m_X7_covers Ret 0 0 162 [some (vR p0), some (vI a1), o2, o3, some (vI a4), some (vI a5), o6] [] w) (kf : ¬ ((wI w p0 25) < 0) → G Γ m_X7_covers Ret 0 0 118 [some (vR p0), some (vI a1), o2, o3, some (vI a4), some (vI a5), o6] [] w) (h1 : sh w p0 = some (.inr 7) := by assumption) (h2 : sm (wI w p0 25) := by omega) : G Γ m_X7_covers Ret 0 0 111 [some (vR p0), some (vI a1), o2, o3, some (vI a4), some (vI a5), o6] [] w := by
  refine G_aload_n dX7_covers_111 rfl ?_
  refine G_getI dX7_covers_112 fl_RX7_183 h1 rfl ?_
  exact G_if_lt dX7_covers_115 (by decide) h2 kt kf
theorem k_X7_covers_51 {Γ : Gm} {Ret : Option Value → Wd → Prop} {a1 a3 a4 a6 s0 z3 : Int} {p0 q1 n2 : Nat} {o2 o5 : Option Value} {w : Wd} (c6 : SpP Γ m_X7_longFor [vR p0, vI a3, vI (wI w q1 a6)] w z3) (km : G Γ m_X7_covers Ret 0 0 11 [some (vR p0), some (vI a1), o2, some (vI (a3 + (wI w q1 a6))), some (vI (a4 + z3)), some (vI (s0 + 0)), some (vI (a6 + 1))] [] w) (h1 : sh w p0 = some (.inr 7) := by assumption) (h2 : wR w p0 22 = vR q1 := by assumption) (h3 : sh w q1 = some (.inl (0, n2)) := by assumption) (h4 : (0 : Int) ≤ a6 ∧ a6 < (n2 : Int) := by omega) (h5 : n2 < 2147483648 := by omega) (h7 : nl1 [o2] 1 = true := by rfl) : G Γ m_X7_covers Ret 0 0 51 [some (vR p0), some (vI a1), o2, some (vI a3), some (vI a4), o5, some (vI a6)] [vI s0] w := by
  refine G_const dX7_covers_51 ?_
  refine G_iadd dX7_covers_52 ?_
  refine G_istore dX7_covers_53 (by decide) rfl ?_
  refine G_iload dX7_covers_55 rfl ?_
  refine G_aload_n dX7_covers_57 rfl ?_
  refine G_iload_n dX7_covers_58 rfl ?_
  refine G_aload_n dX7_covers_59 rfl ?_
  refine G_getR dX7_covers_60 fl_RX7_46 h1 rfl h2 ?_
  refine G_iload dX7_covers_63 rfl ?_
  refine G_iald dX7_covers_65 h3 h4 h5 ?_
  refine G_VP (as := [vI a3, vI (wI w q1 a6)]) (st := [vI a4]) n0_X7_longFor dX7_covers_66 ml_RX7_141 mc_X7_longFor rfl ⟨by decide, ⟨Nat.le_of_ble_eq_true rfl, Nat.le_of_ble_eq_true rfl⟩, Nat.le_of_ble_eq_true rfl⟩ h1 ⟨_, _, rfl⟩ c6 ?_
  refine G_iadd dX7_covers_69 ?_
  refine G_istore dX7_covers_70 (by decide) rfl ?_
  refine G_iload_n dX7_covers_72 rfl ?_
  refine G_aload_n dX7_covers_73 rfl ?_
  refine G_getR dX7_covers_74 fl_RX7_46 h1 rfl h2 ?_
  refine G_iload dX7_covers_77 rfl ?_
  refine G_iald dX7_covers_79 h3 h4 h5 ?_
  refine G_iadd dX7_covers_80 ?_
  refine G_istore_n dX7_covers_81 (by decide) (by simpa [nl1] using h7) ?_
  refine G_iinc dX7_covers_82 (by decide) rfl rfl ?_
  refine G_goto dX7_covers_85 (tgt := 11) (by decide) ?_
  exact km
theorem k_X7_covers_41 {Γ : Gm} {Ret : Option Value → Wd → Prop} {a1 a3 a4 a6 s0 z1 z4 : Int} {p0 q2 n3 : Nat} {o2 o5 : Option Value} {w : Wd} (c2 : SpP Γ m_X7_seamAt [vR p0, vI (a3 - 1)] w z1) (c7 : SpP Γ m_X7_longFor [vR p0, vI a3, vI (wI w q2 a6)] w z4) (km : G Γ m_X7_covers Ret 0 0 11 [some (vR p0), some (vI a1), o2, some (vI (a3 + (wI w q2 a6))), some (vI (a4 + z4)), some (vI (s0 + z1)), some (vI (a6 + 1))] [] w) (h1 : sh w p0 = some (.inr 7) := by assumption) (h3 : wR w p0 22 = vR q2 := by assumption) (h4 : sh w q2 = some (.inl (0, n3)) := by assumption) (h5 : (0 : Int) ≤ a6 ∧ a6 < (n3 : Int) := by omega) (h6 : n3 < 2147483648 := by omega) (h8 : nl1 [o2] 1 = true := by rfl) : G Γ m_X7_covers Ret 0 0 41 [some (vR p0), some (vI a1), o2, some (vI a3), some (vI a4), o5, some (vI a6)] [vI s0] w := by
  refine G_aload_n dX7_covers_41 rfl ?_
  refine G_iload_n dX7_covers_42 rfl ?_
  refine G_const dX7_covers_43 ?_
  refine G_isub dX7_covers_44 ?_
  refine G_VP (as := [vI (a3 - 1)]) (st := [vI s0]) n0_X7_seamAt dX7_covers_45 ml_RX7_180 mc_X7_seamAt rfl ⟨by decide, ⟨Nat.le_of_ble_eq_true rfl, Nat.le_of_ble_eq_true rfl⟩, Nat.le_of_ble_eq_true rfl⟩ h1 ⟨_, _, rfl⟩ c2 ?_
  refine G_goto dX7_covers_48 (tgt := 52) (by decide) ?_
  refine G_iadd dX7_covers_52 ?_
  refine G_istore dX7_covers_53 (by decide) rfl ?_
  refine G_iload dX7_covers_55 rfl ?_
  refine G_aload_n dX7_covers_57 rfl ?_
  refine G_iload_n dX7_covers_58 rfl ?_
  refine G_aload_n dX7_covers_59 rfl ?_
  refine G_getR dX7_covers_60 fl_RX7_46 h1 rfl h3 ?_
  refine G_iload dX7_covers_63 rfl ?_
  refine G_iald dX7_covers_65 h4 h5 h6 ?_
  refine G_VP (as := [vI a3, vI (wI w q2 a6)]) (st := [vI a4]) n0_X7_longFor dX7_covers_66 ml_RX7_141 mc_X7_longFor rfl ⟨by decide, ⟨Nat.le_of_ble_eq_true rfl, Nat.le_of_ble_eq_true rfl⟩, Nat.le_of_ble_eq_true rfl⟩ h1 ⟨_, _, rfl⟩ c7 ?_
  refine G_iadd dX7_covers_69 ?_
  refine G_istore dX7_covers_70 (by decide) rfl ?_
  refine G_iload_n dX7_covers_72 rfl ?_
  refine G_aload_n dX7_covers_73 rfl ?_
  refine G_getR dX7_covers_74 fl_RX7_46 h1 rfl h3 ?_
  refine G_iload dX7_covers_77 rfl ?_
  refine G_iald dX7_covers_79 h4 h5 h6 ?_
  refine G_iadd dX7_covers_80 ?_
  refine G_istore_n dX7_covers_81 (by decide) (by simpa [nl1] using h8) ?_
  refine G_iinc dX7_covers_82 (by decide) rfl rfl ?_
  refine G_goto dX7_covers_85 (tgt := 11) (by decide) ?_
  exact km
theorem k_X7_covers_162 {Γ : Gm} {Ret : Option Value → Wd → Prop} {a1 a4 a5 : Int} {p0 q1 q2 : Nat} {o2 o3 o6 : Option Value} {w : Wd} {Q : Wd → Prop} (c4 : SpV Γ m_X7_bring [vR q1, vI 0, vR q2, vI 0, vI a1] (stI (stI (stI w p0 25 a4) p0 26 a5) p0 24 a1) Q) (kq : ∀ u : Wd, Q u → G Γ m_X7_covers Ret 0 0 205 [some (vR p0), some (vI a1), o2, o3, some (vI a4), some (vI a5), some (vI 1)] [] u) (h1 : sh w p0 = some (.inr 7) := by assumption) (h2 : wR w p0 22 = vR q1 := by assumption) (h3 : wR w p0 23 = vR q2 := by assumption) : G Γ m_X7_covers Ret 0 0 162 [some (vR p0), some (vI a1), o2, o3, some (vI a4), some (vI a5), o6] [] w := by
  refine G_const dX7_covers_162 ?_
  refine G_goto dX7_covers_163 (tgt := 167) (by decide) ?_
  refine G_istore dX7_covers_167 (by decide) rfl ?_
  refine G_iload dX7_covers_169 rfl ?_
  refine G_if_eq dX7_covers_171 (tgt := 205) (by decide) (by decide) (fun h => absurd h (by decide)) (fun _ => ?_)
  refine G_aload_n dX7_covers_174 rfl ?_
  refine G_iload dX7_covers_175 rfl ?_
  refine G_putI dX7_covers_177 fl_RX7_183 h1 rfl ?_
  refine G_aload_n dX7_covers_180 rfl ?_
  refine G_iload dX7_covers_181 rfl ?_
  refine G_putI dX7_covers_183 fl_RX7_186 h1 rfl ?_
  refine G_aload_n dX7_covers_186 rfl ?_
  refine G_iload_n dX7_covers_187 rfl ?_
  refine G_putI dX7_covers_188 fl_RX7_193 h1 rfl ?_
  refine G_aload_n dX7_covers_191 rfl ?_
  refine G_getR dX7_covers_192 fl_RX7_46 h1 rfl h2 ?_
  refine G_const dX7_covers_195 ?_
  refine G_aload_n dX7_covers_196 rfl ?_
  refine G_getR dX7_covers_197 fl_RX7_49 h1 rfl h3 ?_
  refine G_const dX7_covers_200 ?_
  refine G_iload_n dX7_covers_201 rfl ?_
  exact G_SV (as := [vR q1, vI 0, vR q2, vI 0, vI a1]) (st := []) n0_X7_bring dX7_covers_202 ml_RX7_110 mc_X7_bring rfl ⟨by decide, ⟨Nat.le_of_ble_eq_true rfl, Nat.le_of_ble_eq_true rfl⟩, Nat.le_of_ble_eq_true rfl⟩ c4 (fun u hq => kq u hq)
theorem k_X7_covers_118 {Γ : Gm} {Ret : Option Value → Wd → Prop} {a1 a4 a5 : Int} {p0 : Nat} {o2 o3 o6 : Option Value} {w : Wd} (kt : a4 < (wI w p0 25) → G Γ m_X7_covers Ret 0 0 162 [some (vR p0), some (vI a1), o2, o3, some (vI a4), some (vI a5), o6] [] w) (kf : ¬ (a4 < (wI w p0 25)) → G Γ m_X7_covers Ret 0 0 127 [some (vR p0), some (vI a1), o2, o3, some (vI a4), some (vI a5), o6] [] w) (h1 : sh w p0 = some (.inr 7) := by assumption) (h2 : sm a4 := by omega) (h3 : sm (wI w p0 25) := by omega) : G Γ m_X7_covers Ret 0 0 118 [some (vR p0), some (vI a1), o2, o3, some (vI a4), some (vI a5), o6] [] w := by
  refine G_iload dX7_covers_118 rfl ?_
  refine G_aload_n dX7_covers_120 rfl ?_
  refine G_getI dX7_covers_121 fl_RX7_183 h1 rfl ?_
  exact G_icmp_lt dX7_covers_124 (by decide) h2 h3 kt kf
theorem k_X7_covers_205 {Γ : Gm} {Ret : Option Value → Wd → Prop} {a6 : Int} {o0 o1 o2 o3 o4 o5 : Option Value} {w : Wd} (kr : Ret (some (vI a6)) w) (h1 : a6 = 0 ∨ a6 = 1 := by omega) : G Γ m_X7_covers Ret 0 0 205 [o0, o1, o2, o3, o4, o5, some (vI a6)] [] w := by
  refine G_iload dX7_covers_205 rfl ?_
  exact G_reti dX7_covers_207 (by rcases h1 with q | q <;> rw [q]; exact Or.inl rfl; exact Or.inr rfl) ⟨rfl, Nat.le_of_ble_eq_true rfl⟩ kr
theorem k_X7_covers_127 {Γ : Gm} {Ret : Option Value → Wd → Prop} {a1 a4 a5 : Int} {p0 : Nat} {o2 o3 o6 : Option Value} {w : Wd} (kt : a4 ≠ (wI w p0 25) → G Γ m_X7_covers Ret 0 0 166 [some (vR p0), some (vI a1), o2, o3, some (vI a4), some (vI a5), o6] [] w) (kf : a4 = (wI w p0 25) → G Γ m_X7_covers Ret 0 0 136 [some (vR p0), some (vI a1), o2, o3, some (vI a4), some (vI a5), o6] [] w) (h1 : sh w p0 = some (.inr 7) := by assumption) (h2 : sm a4 := by omega) (h3 : sm (wI w p0 25) := by omega) : G Γ m_X7_covers Ret 0 0 127 [some (vR p0), some (vI a1), o2, o3, some (vI a4), some (vI a5), o6] [] w := by
  refine G_iload dX7_covers_127 rfl ?_
  refine G_aload_n dX7_covers_129 rfl ?_
  refine G_getI dX7_covers_130 fl_RX7_183 h1 rfl ?_
  exact G_icmp_ne dX7_covers_133 (by decide) h2 h3 kt kf
theorem k_X7_covers_166 {Γ : Gm} {Ret : Option Value → Wd → Prop} {a1 a4 a5 : Int} {p0 : Nat} {o2 o3 o6 : Option Value} {w : Wd} (kr : Ret (some (vI 0)) w) : G Γ m_X7_covers Ret 0 0 166 [some (vR p0), some (vI a1), o2, o3, some (vI a4), some (vI a5), o6] [] w := by
  refine G_const dX7_covers_166 ?_
  refine G_istore dX7_covers_167 (by decide) rfl ?_
  refine G_iload dX7_covers_169 rfl ?_
  refine G_if_eq dX7_covers_171 (tgt := 205) (by decide) (by decide) (fun _ => ?_) (fun h => absurd h (by decide))
  refine G_iload dX7_covers_205 rfl ?_
  exact G_reti dX7_covers_207 (Or.inl rfl) ⟨rfl, Nat.le_of_ble_eq_true rfl⟩ kr
theorem k_X7_covers_136 {Γ : Gm} {Ret : Option Value → Wd → Prop} {a1 a4 a5 : Int} {p0 : Nat} {o2 o3 o6 : Option Value} {w : Wd} (kt : a5 < (wI w p0 26) → G Γ m_X7_covers Ret 0 0 162 [some (vR p0), some (vI a1), o2, o3, some (vI a4), some (vI a5), o6] [] w) (kf : ¬ (a5 < (wI w p0 26)) → G Γ m_X7_covers Ret 0 0 145 [some (vR p0), some (vI a1), o2, o3, some (vI a4), some (vI a5), o6] [] w) (h1 : sh w p0 = some (.inr 7) := by assumption) (h2 : sm a5 := by omega) (h3 : sm (wI w p0 26) := by omega) : G Γ m_X7_covers Ret 0 0 136 [some (vR p0), some (vI a1), o2, o3, some (vI a4), some (vI a5), o6] [] w := by
  refine G_iload dX7_covers_136 rfl ?_
  refine G_aload_n dX7_covers_138 rfl ?_
  refine G_getI dX7_covers_139 fl_RX7_186 h1 rfl ?_
  exact G_icmp_lt dX7_covers_142 (by decide) h2 h3 kt kf
theorem k_X7_covers_145 {Γ : Gm} {Ret : Option Value → Wd → Prop} {a1 a4 a5 : Int} {p0 : Nat} {o2 o3 o6 : Option Value} {w : Wd} (kt : a5 ≠ (wI w p0 26) → G Γ m_X7_covers Ret 0 0 166 [some (vR p0), some (vI a1), o2, o3, some (vI a4), some (vI a5), o6] [] w) (kf : a5 = (wI w p0 26) → G Γ m_X7_covers Ret 0 0 154 [some (vR p0), some (vI a1), o2, o3, some (vI a4), some (vI a5), o6] [] w) (h1 : sh w p0 = some (.inr 7) := by assumption) (h2 : sm a5 := by omega) (h3 : sm (wI w p0 26) := by omega) : G Γ m_X7_covers Ret 0 0 145 [some (vR p0), some (vI a1), o2, o3, some (vI a4), some (vI a5), o6] [] w := by
  refine G_iload dX7_covers_145 rfl ?_
  refine G_aload_n dX7_covers_147 rfl ?_
  refine G_getI dX7_covers_148 fl_RX7_186 h1 rfl ?_
  exact G_icmp_ne dX7_covers_151 (by decide) h2 h3 kt kf
theorem k_X7_covers_154 {Γ : Gm} {Ret : Option Value → Wd → Prop} {a1 a4 a5 z1 : Int} {p0 : Nat} {o2 o3 o6 : Option Value} {w : Wd} (c2 : SpP Γ m_X7_isBefore [vR p0, vI a1] w z1) (kt : z1 = 0 → G Γ m_X7_covers Ret 0 0 166 [some (vR p0), some (vI a1), o2, o3, some (vI a4), some (vI a5), o6] [] w) (kf : ¬ (z1 = 0) → G Γ m_X7_covers Ret 0 0 162 [some (vR p0), some (vI a1), o2, o3, some (vI a4), some (vI a5), o6] [] w) (h1 : sh w p0 = some (.inr 7) := by assumption) (h3 : sm z1 := by omega) : G Γ m_X7_covers Ret 0 0 154 [some (vR p0), some (vI a1), o2, o3, some (vI a4), some (vI a5), o6] [] w := by
  refine G_aload_n dX7_covers_154 rfl ?_
  refine G_iload_n dX7_covers_155 rfl ?_
  refine G_VP (as := [vI a1]) (st := []) n0_X7_isBefore dX7_covers_156 ml_RX7_189 mc_X7_isBefore rfl ⟨by decide, ⟨Nat.le_of_ble_eq_true rfl, Nat.le_of_ble_eq_true rfl⟩, Nat.le_of_ble_eq_true rfl⟩ h1 ⟨_, _, rfl⟩ c2 ?_
  exact G_if_eq dX7_covers_159 (by decide) h3 kt kf
theorem k_X7_isBefore_0 {Γ : Gm} {Ret : Option Value → Wd → Prop} {a1 : Int} {p0 : Nat} {w : Wd} (km : G Γ m_X7_isBefore Ret 0 0 2 [some (vR p0), some (vI a1), some (vI 0)] [] w) : G Γ m_X7_isBefore Ret 0 0 0 [some (vR p0), some (vI a1), none] [] w := by
  refine G_const dX7_isBefore_0 ?_
  refine G_istore_n dX7_isBefore_1 (by decide) rfl ?_
  exact km
theorem k_X7_isBefore_2 {Γ : Gm} {Ret : Option Value → Wd → Prop} {a1 a2 : Int} {p0 : Nat} {w : Wd} (kt : a1 ≤ a2 → G Γ m_X7_isBefore Ret 0 0 57 [some (vR p0), some (vI a1), some (vI a2)] [] w) (kf : ¬ (a1 ≤ a2) → G Γ m_X7_isBefore Ret 0 0 7 [some (vR p0), some (vI a1), some (vI a2)] [] w) (h1 : sm a2 := by omega) (h2 : sm a1 := by omega) : G Γ m_X7_isBefore Ret 0 0 2 [some (vR p0), some (vI a1), some (vI a2)] [] w := by
  refine G_iload_n dX7_isBefore_2 rfl ?_
  refine G_iload_n dX7_isBefore_3 rfl ?_
  exact G_icmp_ge dX7_isBefore_4 (by decide) h1 h2 kt kf
theorem k_X7_isBefore_57 {Γ : Gm} {Ret : Option Value → Wd → Prop} {a1 : Int} {p0 : Nat} {o2 : Option Value} {w : Wd} (kt : (wI w p0 24) ≤ a1 → G Γ m_X7_isBefore Ret 0 0 69 [some (vR p0), some (vI a1), o2] [] w) (kf : ¬ ((wI w p0 24) ≤ a1) → G Γ m_X7_isBefore Ret 0 0 65 [some (vR p0), some (vI a1), o2] [] w) (h1 : sh w p0 = some (.inr 7) := by assumption) (h2 : sm a1 := by omega) (h3 : sm (wI w p0 24) := by omega) : G Γ m_X7_isBefore Ret 0 0 57 [some (vR p0), some (vI a1), o2] [] w := by
  refine G_iload_n dX7_isBefore_57 rfl ?_
  refine G_aload_n dX7_isBefore_58 rfl ?_
  refine G_getI dX7_isBefore_59 fl_RX7_193 h1 rfl ?_
  exact G_icmp_ge dX7_isBefore_62 (by decide) h2 h3 kt kf
theorem k_X7_isBefore_7 {Γ : Gm} {Ret : Option Value → Wd → Prop} {a1 a2 : Int} {p0 : Nat} {w : Wd} (kt : (wI w p0 24) ≤ a2 → G Γ m_X7_isBefore Ret 0 0 57 [some (vR p0), some (vI a1), some (vI a2)] [] w) (kf : ¬ ((wI w p0 24) ≤ a2) → G Γ m_X7_isBefore Ret 0 0 15 [some (vR p0), some (vI a1), some (vI a2)] [] w) (h1 : sh w p0 = some (.inr 7) := by assumption) (h2 : sm a2 := by omega) (h3 : sm (wI w p0 24) := by omega) : G Γ m_X7_isBefore Ret 0 0 7 [some (vR p0), some (vI a1), some (vI a2)] [] w := by
  refine G_iload_n dX7_isBefore_7 rfl ?_
  refine G_aload_n dX7_isBefore_8 rfl ?_
  refine G_getI dX7_isBefore_9 fl_RX7_193 h1 rfl ?_
  exact G_icmp_ge dX7_isBefore_12 (by decide) h2 h3 kt kf
theorem k_X7_isBefore_69 {Γ : Gm} {Ret : Option Value → Wd → Prop} {o0 o1 o2 : Option Value} {w : Wd} (kr : Ret (some (vI 0)) w) : G Γ m_X7_isBefore Ret 0 0 69 [o0, o1, o2] [] w := by
  refine G_const dX7_isBefore_69 ?_
  exact G_reti dX7_isBefore_70 (Or.inl rfl) ⟨rfl, Nat.le_of_ble_eq_true rfl⟩ kr
theorem k_X7_isBefore_65 {Γ : Gm} {Ret : Option Value → Wd → Prop} {o0 o1 o2 : Option Value} {w : Wd} (kr : Ret (some (vI 1)) w) : G Γ m_X7_isBefore Ret 0 0 65 [o0, o1, o2] [] w := by
  refine G_const dX7_isBefore_65 ?_
  refine G_goto dX7_isBefore_66 (tgt := 70) (by decide) ?_
  exact G_reti dX7_isBefore_70 (Or.inr rfl) ⟨rfl, Nat.le_of_ble_eq_true rfl⟩ kr
theorem k_X7_isBefore_15 {Γ : Gm} {Ret : Option Value → Wd → Prop} {a1 a2 : Int} {p0 q1 q3 n2 n4 : Nat} {w : Wd} (kt : (wI w q1 a2) = (wI w q3 a2) → G Γ m_X7_isBefore Ret 0 0 51 [some (vR p0), some (vI a1), some (vI a2)] [] w) (kf : ¬ ((wI w q1 a2) = (wI w q3 a2)) → G Γ m_X7_isBefore Ret 0 0 30 [some (vR p0), some (vI a1), some (vI a2)] [] w) (h1 : sh w p0 = some (.inr 7) := by assumption) (h2 : wR w p0 22 = vR q1 := by assumption) (h3 : sh w q1 = some (.inl (0, n2)) := by assumption) (h4 : (0 : Int) ≤ a2 ∧ a2 < (n2 : Int) := by omega) (h5 : n2 < 2147483648 := by omega) (h6 : wR w p0 23 = vR q3 := by assumption) (h7 : sh w q3 = some (.inl (0, n4)) := by assumption) (h8 : (0 : Int) ≤ a2 ∧ a2 < (n4 : Int) := by omega) (h9 : n4 < 2147483648 := by omega) (h10 : sm (wI w q1 a2) := by omega) (h11 : sm (wI w q3 a2) := by omega) : G Γ m_X7_isBefore Ret 0 0 15 [some (vR p0), some (vI a1), some (vI a2)] [] w := by
  refine G_aload_n dX7_isBefore_15 rfl ?_
  refine G_getR dX7_isBefore_16 fl_RX7_46 h1 rfl h2 ?_
  refine G_iload_n dX7_isBefore_19 rfl ?_
  refine G_iald dX7_isBefore_20 h3 h4 h5 ?_
  refine G_aload_n dX7_isBefore_21 rfl ?_
  refine G_getR dX7_isBefore_22 fl_RX7_49 h1 rfl h6 ?_
  refine G_iload_n dX7_isBefore_25 rfl ?_
  refine G_iald dX7_isBefore_26 h7 h8 h9 ?_
  exact G_icmp_eq dX7_isBefore_27 (by decide) h10 h11 kt kf
theorem k_X7_isBefore_51 {Γ : Gm} {Ret : Option Value → Wd → Prop} {a1 a2 : Int} {p0 : Nat} {w : Wd} (km : G Γ m_X7_isBefore Ret 0 0 2 [some (vR p0), some (vI a1), some (vI (a2 + 1))] [] w) : G Γ m_X7_isBefore Ret 0 0 51 [some (vR p0), some (vI a1), some (vI a2)] [] w := by
  refine G_iinc dX7_isBefore_51 (by decide) rfl rfl ?_
  refine G_goto dX7_isBefore_54 (tgt := 2) (by decide) ?_
  exact km
theorem k_X7_isBefore_30 {Γ : Gm} {Ret : Option Value → Wd → Prop} {a2 : Int} {p0 q1 q3 n2 n4 : Nat} {o1 : Option Value} {w : Wd} (kt : (wI w q3 a2) ≤ (wI w q1 a2) → G Γ m_X7_isBefore Ret 0 0 49 [some (vR p0), o1, some (vI a2)] [] w) (kf : ¬ ((wI w q3 a2) ≤ (wI w q1 a2)) → G Γ m_X7_isBefore Ret 0 0 45 [some (vR p0), o1, some (vI a2)] [] w) (h1 : sh w p0 = some (.inr 7) := by assumption) (h2 : wR w p0 22 = vR q1 := by assumption) (h3 : sh w q1 = some (.inl (0, n2)) := by assumption) (h4 : (0 : Int) ≤ a2 ∧ a2 < (n2 : Int) := by omega) (h5 : n2 < 2147483648 := by omega) (h6 : wR w p0 23 = vR q3 := by assumption) (h7 : sh w q3 = some (.inl (0, n4)) := by assumption) (h8 : (0 : Int) ≤ a2 ∧ a2 < (n4 : Int) := by omega) (h9 : n4 < 2147483648 := by omega) (h10 : sm (wI w q1 a2) := by omega) (h11 : sm (wI w q3 a2) := by omega) : G Γ m_X7_isBefore Ret 0 0 30 [some (vR p0), o1, some (vI a2)] [] w := by
  refine G_aload_n dX7_isBefore_30 rfl ?_
  refine G_getR dX7_isBefore_31 fl_RX7_46 h1 rfl h2 ?_
  refine G_iload_n dX7_isBefore_34 rfl ?_
  refine G_iald dX7_isBefore_35 h3 h4 h5 ?_
  refine G_aload_n dX7_isBefore_36 rfl ?_
  refine G_getR dX7_isBefore_37 fl_RX7_49 h1 rfl h6 ?_
  refine G_iload_n dX7_isBefore_40 rfl ?_
  refine G_iald dX7_isBefore_41 h7 h8 h9 ?_
  exact G_icmp_ge dX7_isBefore_42 (by decide) h10 h11 kt kf
theorem k_X7_isBefore_49 {Γ : Gm} {Ret : Option Value → Wd → Prop} {o0 o1 o2 : Option Value} {w : Wd} (kr : Ret (some (vI 0)) w) : G Γ m_X7_isBefore Ret 0 0 49 [o0, o1, o2] [] w := by
  refine G_const dX7_isBefore_49 ?_
  exact G_reti dX7_isBefore_50 (Or.inl rfl) ⟨rfl, Nat.le_of_ble_eq_true rfl⟩ kr
theorem k_X7_isBefore_45 {Γ : Gm} {Ret : Option Value → Wd → Prop} {o0 o1 o2 : Option Value} {w : Wd} (kr : Ret (some (vI 1)) w) : G Γ m_X7_isBefore Ret 0 0 45 [o0, o1, o2] [] w := by
  refine G_const dX7_isBefore_45 ?_
  refine G_goto dX7_isBefore_46 (tgt := 50) (by decide) ?_
  exact G_reti dX7_isBefore_50 (Or.inr rfl) ⟨rfl, Nat.le_of_ble_eq_true rfl⟩ kr
theorem k_X7_layPlan_0 {Γ : Gm} {Ret : Option Value → Wd → Prop} {z2 : Int} {p0 q1 : Nat} {w : Wd} (c3 : SpP Γ m_X7_coveredIn [vR q1] (stI (stI (stI w p0 25 (-1)) p0 26 0) p0 24 0) z2) (kt : 0 ≤ (((wI w p0 9) - z2) - 1) → G Γ m_X7_layPlan Ret 0 0 42 [some (vR p0), some (vI z2), some (vI (((wI w p0 9) - z2) - 1)), none, none, none, none, none] [] (stI (stI (stI w p0 25 (-1)) p0 26 0) p0 24 0)) (kf : ¬ (0 ≤ (((wI w p0 9) - z2) - 1)) → G Γ m_X7_layPlan Ret 0 0 36 [some (vR p0), some (vI z2), some (vI (((wI w p0 9) - z2) - 1)), none, none, none, none, none] [] (stI (stI (stI w p0 25 (-1)) p0 26 0) p0 24 0)) (h1 : sh w p0 = some (.inr 7) := by assumption) (h2 : wR w p0 14 = vR q1 := by assumption) (h4 : sm (((wI w p0 9) - z2) - 1) := by omega) : G Γ m_X7_layPlan Ret 0 0 0 [some (vR p0), none, none, none, none, none, none, none] [] w := by
  refine G_aload_n dX7_layPlan_0 rfl ?_
  refine G_const dX7_layPlan_1 ?_
  refine G_putI dX7_layPlan_2 fl_RX7_183 h1 rfl ?_
  refine G_aload_n dX7_layPlan_5 rfl ?_
  refine G_const dX7_layPlan_6 ?_
  refine G_putI dX7_layPlan_7 fl_RX7_186 h1 rfl ?_
  refine G_aload_n dX7_layPlan_10 rfl ?_
  refine G_const dX7_layPlan_11 ?_
  refine G_putI dX7_layPlan_12 fl_RX7_193 h1 rfl ?_
  refine G_aload_n dX7_layPlan_15 rfl ?_
  refine G_getR dX7_layPlan_16 fl_RX7_31 h1 rfl h2 ?_
  refine G_SP (as := [vR q1]) (st := []) n0_X7_coveredIn dX7_layPlan_19 ml_RX7_137 mc_X7_coveredIn rfl ⟨by decide, ⟨Nat.le_of_ble_eq_true rfl, Nat.le_of_ble_eq_true rfl⟩, Nat.le_of_ble_eq_true rfl⟩ c3 ?_
  refine G_istore_n dX7_layPlan_22 (by decide) rfl ?_
  refine G_aload_n dX7_layPlan_23 rfl ?_
  refine G_getI dX7_layPlan_24 fl_RX7_56 h1 rfl ?_
  rw [wI_skip (by decide)]
  rw [wI_skip (by decide)]
  rw [wI_skip (by decide)]
  refine G_iload_n dX7_layPlan_27 rfl ?_
  refine G_isub dX7_layPlan_28 ?_
  refine G_const dX7_layPlan_29 ?_
  refine G_isub dX7_layPlan_30 ?_
  refine G_istore_n dX7_layPlan_31 (by decide) rfl ?_
  refine G_iload_n dX7_layPlan_32 rfl ?_
  exact G_if_ge dX7_layPlan_33 (by decide) h4 kt kf
theorem k_X7_layPlan_42 {Γ : Gm} {Ret : Option Value → Wd → Prop} {a1 a2 : Int} {p0 : Nat} {o3 o4 o5 o6 o7 : Option Value} {w : Wd} (km : G Γ m_X7_layPlan Ret 0 0 44 [some (vR p0), some (vI a1), some (vI a2), some (vI 0), o4, o5, o6, o7] [] w) : G Γ m_X7_layPlan Ret 0 0 42 [some (vR p0), some (vI a1), some (vI a2), o3, o4, o5, o6, o7] [] w := by
  refine G_const dX7_layPlan_42 ?_
  refine G_istore_n dX7_layPlan_43 (by decide) rfl ?_
  exact km
theorem k_X7_layPlan_36 {Γ : Gm} {Ret : Option Value → Wd → Prop} {p0 : Nat} {o1 o2 o3 o4 o5 o6 o7 : Option Value} {w : Wd} (kr : Ret none (stI w p0 25 0)) (h1 : sh w p0 = some (.inr 7) := by assumption) : G Γ m_X7_layPlan Ret 0 0 36 [some (vR p0), o1, o2, o3, o4, o5, o6, o7] [] w := by
  refine G_aload_n dX7_layPlan_36 rfl ?_
  refine G_const dX7_layPlan_37 ?_
  refine G_putI dX7_layPlan_38 fl_RX7_183 h1 rfl ?_
  exact G_retv dX7_layPlan_41 trivial ⟨rfl, Nat.le_of_ble_eq_true rfl⟩ kr
theorem k_X7_layPlan_44 {Γ : Gm} {Ret : Option Value → Wd → Prop} {a1 a2 a3 : Int} {p0 : Nat} {o4 o5 o6 o7 : Option Value} {w : Wd} (kt : (zshl 1 a2) ≤ a3 → G Γ m_X7_layPlan Ret 0 0 150 [some (vR p0), some (vI a1), some (vI a2), some (vI a3), o4, o5, o6, o7] [] w) (kf : ¬ ((zshl 1 a2) ≤ a3) → G Γ m_X7_layPlan Ret 0 0 51 [some (vR p0), some (vI a1), some (vI a2), some (vI a3), o4, o5, o6, o7] [] w) (h1 : sm a3 := by omega) : G Γ m_X7_layPlan Ret 0 0 44 [some (vR p0), some (vI a1), some (vI a2), some (vI a3), o4, o5, o6, o7] [] w := by
  refine G_iload_n dX7_layPlan_44 rfl ?_
  refine G_const dX7_layPlan_45 ?_
  refine G_iload_n dX7_layPlan_46 rfl ?_
  refine G_ishl dX7_layPlan_47 ?_
  exact G_icmp_ge dX7_layPlan_48 (by decide) h1 (sm_of _) kt kf
theorem k_X7_layPlan_150 {Γ : Gm} {Ret : Option Value → Wd → Prop} {o0 o1 o2 o3 o4 o5 o6 o7 : Option Value} {w : Wd} (kr : Ret none w) : G Γ m_X7_layPlan Ret 0 0 150 [o0, o1, o2, o3, o4, o5, o6, o7] [] w := by
  exact G_retv dX7_layPlan_150 trivial ⟨rfl, Nat.le_of_ble_eq_true rfl⟩ kr
theorem k_X7_layPlan_51 {Γ : Gm} {Ret : Option Value → Wd → Prop} {a1 a2 a3 : Int} {p0 : Nat} {o4 o5 o6 o7 : Option Value} {w : Wd} (km : G Γ m_X7_layPlan Ret 0 0 63 [some (vR p0), some (vI a1), some (vI a2), some (vI a3), some (vI 0), some (vI 0), some (vI 1), some (vI 0)] [] w) : G Γ m_X7_layPlan Ret 0 0 51 [some (vR p0), some (vI a1), some (vI a2), some (vI a3), o4, o5, o6, o7] [] w := by
  refine G_const dX7_layPlan_51 ?_
  refine G_istore dX7_layPlan_52 (by decide) rfl ?_
  refine G_const dX7_layPlan_54 ?_
  refine G_istore dX7_layPlan_55 (by decide) rfl ?_
  refine G_const dX7_layPlan_57 ?_
  refine G_istore dX7_layPlan_58 (by decide) rfl ?_
  refine G_const dX7_layPlan_60 ?_
  refine G_istore dX7_layPlan_61 (by decide) rfl ?_
  exact km
theorem k_X7_layPlan_63 {Γ : Gm} {Ret : Option Value → Wd → Prop} {a1 a2 a3 a4 a5 a6 a7 : Int} {p0 : Nat} {w : Wd} (kt : a2 < a7 → G Γ m_X7_layPlan Ret 0 0 131 [some (vR p0), some (vI a1), some (vI a2), some (vI a3), some (vI a4), some (vI a5), some (vI a6), some (vI a7)] [] w) (kf : ¬ (a2 < a7) → G Γ m_X7_layPlan Ret 0 0 69 [some (vR p0), some (vI a1), some (vI a2), some (vI a3), some (vI a4), some (vI a5), some (vI a6), some (vI a7)] [] w) (h1 : sm a7 := by omega) (h2 : sm a2 := by omega) : G Γ m_X7_layPlan Ret 0 0 63 [some (vR p0), some (vI a1), some (vI a2), some (vI a3), some (vI a4), some (vI a5), some (vI a6), some (vI a7)] [] w := by
  refine G_iload dX7_layPlan_63 rfl ?_
  refine G_iload_n dX7_layPlan_65 rfl ?_
  exact G_icmp_gt dX7_layPlan_66 (by decide) h1 h2 kt kf
theorem k_X7_layPlan_131 {Γ : Gm} {Ret : Option Value → Wd → Prop} {a1 a2 a3 a4 a6 : Int} {p0 : Nat} {o5 o7 : Option Value} {w : Wd} (kt : a6 = 0 → G Γ m_X7_layPlan Ret 0 0 144 [some (vR p0), some (vI a1), some (vI a2), some (vI a3), some (vI a4), o5, some (vI a6), o7] [] w) (kf : ¬ (a6 = 0) → G Γ m_X7_layPlan Ret 0 0 136 [some (vR p0), some (vI a1), some (vI a2), some (vI a3), some (vI a4), o5, some (vI a6), o7] [] w) (h1 : sm a6 := by omega) : G Γ m_X7_layPlan Ret 0 0 131 [some (vR p0), some (vI a1), some (vI a2), some (vI a3), some (vI a4), o5, some (vI a6), o7] [] w := by
  refine G_iload dX7_layPlan_131 rfl ?_
  exact G_if_eq dX7_layPlan_133 (by decide) h1 kt kf
theorem k_X7_layPlan_69 {Γ : Gm} {Ret : Option Value → Wd → Prop} {a1 a2 a3 a4 a5 a6 a7 : Int} {p0 : Nat} {w : Wd} (kt : a6 = 0 → G Γ m_X7_layPlan Ret 0 0 92 [some (vR p0), some (vI a1), some (vI a2), some (vI a3), some (vI a4), some (vI (a5 + 1)), some (vI a6), some (vI a7)] [] w) (kf : ¬ (a6 = 0) → G Γ m_X7_layPlan Ret 0 0 77 [some (vR p0), some (vI a1), some (vI a2), some (vI a3), some (vI a4), some (vI (a5 + 1)), some (vI a6), some (vI a7)] [] w) (h1 : sm a6 := by omega) : G Γ m_X7_layPlan Ret 0 0 69 [some (vR p0), some (vI a1), some (vI a2), some (vI a3), some (vI a4), some (vI a5), some (vI a6), some (vI a7)] [] w := by
  refine G_iinc dX7_layPlan_69 (by decide) rfl rfl ?_
  refine G_iload dX7_layPlan_72 rfl ?_
  exact G_if_eq dX7_layPlan_74 (by decide) h1 kt kf
theorem k_X7_layPlan_144 {Γ : Gm} {Ret : Option Value → Wd → Prop} {a1 a2 a3 : Int} {p0 : Nat} {o4 o5 o6 o7 : Option Value} {w : Wd} (km : G Γ m_X7_layPlan Ret 0 0 44 [some (vR p0), some (vI a1), some (vI a2), some (vI (a3 + 1)), o4, o5, o6, o7] [] w) : G Γ m_X7_layPlan Ret 0 0 144 [some (vR p0), some (vI a1), some (vI a2), some (vI a3), o4, o5, o6, o7] [] w := by
  refine G_iinc dX7_layPlan_144 (by decide) rfl rfl ?_
  refine G_goto dX7_layPlan_147 (tgt := 44) (by decide) ?_
  exact km
theorem k_X7_layPlan_136 {Γ : Gm} {Ret : Option Value → Wd → Prop} {a1 a2 a3 a4 : Int} {p0 : Nat} {o5 o6 o7 : Option Value} {w : Wd} {Q : Int → Wd → Prop} (c2 : SpI Γ m_X7_covers [vR p0, vI a4, vI a1] w Q) (kq : ∀ (z : Int) (u : Wd), Q z u → G Γ m_X7_layPlan Ret 0 0 143 [some (vR p0), some (vI a1), some (vI a2), some (vI a3), some (vI a4), o5, o6, o7] [vI z] u) (h1 : sh w p0 = some (.inr 7) := by assumption) : G Γ m_X7_layPlan Ret 0 0 136 [some (vR p0), some (vI a1), some (vI a2), some (vI a3), some (vI a4), o5, o6, o7] [] w := by
  refine G_aload_n dX7_layPlan_136 rfl ?_
  refine G_iload dX7_layPlan_137 rfl ?_
  refine G_iload_n dX7_layPlan_139 rfl ?_
  exact G_VI (as := [vI a4, vI a1]) (st := []) n0_X7_covers dX7_layPlan_140 ml_RX7_196 mc_X7_covers rfl ⟨by decide, ⟨Nat.le_of_ble_eq_true rfl, Nat.le_of_ble_eq_true rfl⟩, Nat.le_of_ble_eq_true rfl⟩ h1 ⟨_, _, rfl⟩ c2 (fun z u hq => kq z u hq)
theorem k_X7_layPlan_92 {Γ : Gm} {Ret : Option Value → Wd → Prop} {a1 a2 a3 a4 a5 a7 : Int} {p0 : Nat} {o6 : Option Value} {w : Wd} (kt : a7 = a2 → G Γ m_X7_layPlan Ret 0 0 110 [some (vR p0), some (vI a1), some (vI a2), some (vI a3), some (vI a4), some (vI a5), some (vI 0), some (vI a7)] [] w) (kf : ¬ (a7 = a2) → G Γ m_X7_layPlan Ret 0 0 101 [some (vR p0), some (vI a1), some (vI a2), some (vI a3), some (vI a4), some (vI a5), some (vI 0), some (vI a7)] [] w) (h1 : sm a7 := by omega) (h2 : sm a2 := by omega) : G Γ m_X7_layPlan Ret 0 0 92 [some (vR p0), some (vI a1), some (vI a2), some (vI a3), some (vI a4), some (vI a5), o6, some (vI a7)] [] w := by
  refine G_const dX7_layPlan_92 ?_
  refine G_istore dX7_layPlan_93 (by decide) rfl ?_
  refine G_iload dX7_layPlan_95 rfl ?_
  refine G_iload_n dX7_layPlan_97 rfl ?_
  exact G_icmp_eq dX7_layPlan_98 (by decide) h1 h2 kt kf
theorem k_X7_layPlan_77 {Γ : Gm} {Ret : Option Value → Wd → Prop} {a1 a2 a3 a4 a5 a7 : Int} {p0 q1 n2 : Nat} {o6 : Option Value} {w : Wd} (kt : (wI w q1 0) < a5 → G Γ m_X7_layPlan Ret 0 0 92 [some (vR p0), some (vI a1), some (vI a2), some (vI a3), some (vI a4), some (vI a5), o6, some (vI a7)] [] w) (kf : ¬ ((wI w q1 0) < a5) → G Γ m_X7_layPlan Ret 0 0 88 [some (vR p0), some (vI a1), some (vI a2), some (vI a3), some (vI a4), some (vI a5), o6, some (vI a7)] [] w) (h1 : sh w p0 = some (.inr 7) := by assumption) (h2 : wR w p0 13 = vR q1 := by assumption) (h3 : sh w q1 = some (.inl (0, n2)) := by assumption) (h4 : (0 : Int) ≤ 0 ∧ 0 < (n2 : Int) := by omega) (h5 : n2 < 2147483648 := by omega) (h6 : sm a5 := by omega) (h7 : sm (wI w q1 0) := by omega) : G Γ m_X7_layPlan Ret 0 0 77 [some (vR p0), some (vI a1), some (vI a2), some (vI a3), some (vI a4), some (vI a5), o6, some (vI a7)] [] w := by
  refine G_iload dX7_layPlan_77 rfl ?_
  refine G_aload_n dX7_layPlan_79 rfl ?_
  refine G_getR dX7_layPlan_80 fl_RX7_28 h1 rfl h2 ?_
  refine G_const dX7_layPlan_83 ?_
  refine G_iald dX7_layPlan_84 h3 h4 h5 ?_
  exact G_icmp_gt dX7_layPlan_85 (by decide) h6 h7 kt kf
theorem k_X7_layPlan_143 {Γ : Gm} {Ret : Option Value → Wd → Prop} {a1 a2 a3 s0 : Int} {p0 : Nat} {o4 o5 o6 o7 : Option Value} {w : Wd} (km : G Γ m_X7_layPlan Ret 0 0 44 [some (vR p0), some (vI a1), some (vI a2), some (vI (a3 + 1)), o4, o5, o6, o7] [] w) : G Γ m_X7_layPlan Ret 0 0 143 [some (vR p0), some (vI a1), some (vI a2), some (vI a3), o4, o5, o6, o7] [vI s0] w := by
  refine G_pop dX7_layPlan_143 rfl ?_
  refine G_iinc dX7_layPlan_144 (by decide) rfl rfl ?_
  refine G_goto dX7_layPlan_147 (tgt := 44) (by decide) ?_
  exact km
theorem k_X7_layPlan_110 {Γ : Gm} {Ret : Option Value → Wd → Prop} {a1 a2 a3 a4 a5 a6 a7 : Int} {p0 q1 n2 : Nat} {w : Wd} (km : G Γ m_X7_layPlan Ret 0 0 63 [some (vR p0), some (vI a1), some (vI a2), some (vI a3), some (vI (a4 + 1)), some (vI 0), some (vI a6), some (vI (a7 + 1))] [] (stI w q1 a4 a5)) (h1 : sh w p0 = some (.inr 7) := by assumption) (h2 : wR w p0 22 = vR q1 := by assumption) (h3 : sh w q1 = some (.inl (0, n2)) := by assumption) (h4 : (0 : Int) ≤ a4 ∧ a4 < (n2 : Int) := by omega) (h5 : n2 < 2147483648 := by omega) : G Γ m_X7_layPlan Ret 0 0 110 [some (vR p0), some (vI a1), some (vI a2), some (vI a3), some (vI a4), some (vI a5), some (vI a6), some (vI a7)] [] w := by
  refine G_aload_n dX7_layPlan_110 rfl ?_
  refine G_getR dX7_layPlan_111 fl_RX7_46 h1 rfl h2 ?_
  refine G_iload dX7_layPlan_114 rfl ?_
  refine G_iload dX7_layPlan_116 rfl ?_
  refine G_iast dX7_layPlan_118 h3 h4 h5 ?_
  refine G_iinc dX7_layPlan_119 (by decide) rfl rfl ?_
  refine G_const dX7_layPlan_122 ?_
  refine G_istore dX7_layPlan_123 (by decide) rfl ?_
  refine G_iinc dX7_layPlan_125 (by decide) rfl rfl ?_
  refine G_goto dX7_layPlan_128 (tgt := 63) (by decide) ?_
  exact km
theorem k_X7_layPlan_101 {Γ : Gm} {Ret : Option Value → Wd → Prop} {a1 a2 a3 a4 a5 a6 a7 z1 : Int} {p0 : Nat} {w : Wd} (c1 : SpP Γ m_X7_has [vI a3, vI a7] w z1) (kt : z1 = 0 → G Γ m_X7_layPlan Ret 0 0 125 [some (vR p0), some (vI a1), some (vI a2), some (vI a3), some (vI a4), some (vI a5), some (vI a6), some (vI a7)] [] w) (kf : ¬ (z1 = 0) → G Γ m_X7_layPlan Ret 0 0 110 [some (vR p0), some (vI a1), some (vI a2), some (vI a3), some (vI a4), some (vI a5), some (vI a6), some (vI a7)] [] w) (h2 : sm z1 := by omega) : G Γ m_X7_layPlan Ret 0 0 101 [some (vR p0), some (vI a1), some (vI a2), some (vI a3), some (vI a4), some (vI a5), some (vI a6), some (vI a7)] [] w := by
  refine G_iload_n dX7_layPlan_101 rfl ?_
  refine G_iload dX7_layPlan_102 rfl ?_
  refine G_SP (as := [vI a3, vI a7]) (st := []) n0_X7_has dX7_layPlan_104 ml_RX7_126 mc_X7_has rfl ⟨by decide, ⟨Nat.le_of_ble_eq_true rfl, Nat.le_of_ble_eq_true rfl⟩, Nat.le_of_ble_eq_true rfl⟩ c1 ?_
  exact G_if_eq dX7_layPlan_107 (by decide) h2 kt kf
theorem k_X7_layPlan_88 {Γ : Gm} {Ret : Option Value → Wd → Prop} {a1 a2 a3 a4 a5 a7 : Int} {p0 : Nat} {o6 : Option Value} {w : Wd} (kt : a7 = a2 → G Γ m_X7_layPlan Ret 0 0 110 [some (vR p0), some (vI a1), some (vI a2), some (vI a3), some (vI a4), some (vI a5), some (vI 1), some (vI a7)] [] w) (kf : ¬ (a7 = a2) → G Γ m_X7_layPlan Ret 0 0 101 [some (vR p0), some (vI a1), some (vI a2), some (vI a3), some (vI a4), some (vI a5), some (vI 1), some (vI a7)] [] w) (h1 : sm a7 := by omega) (h2 : sm a2 := by omega) : G Γ m_X7_layPlan Ret 0 0 88 [some (vR p0), some (vI a1), some (vI a2), some (vI a3), some (vI a4), some (vI a5), o6, some (vI a7)] [] w := by
  refine G_const dX7_layPlan_88 ?_
  refine G_goto dX7_layPlan_89 (tgt := 93) (by decide) ?_
  refine G_istore dX7_layPlan_93 (by decide) rfl ?_
  refine G_iload dX7_layPlan_95 rfl ?_
  refine G_iload_n dX7_layPlan_97 rfl ?_
  exact G_icmp_eq dX7_layPlan_98 (by decide) h1 h2 kt kf
theorem k_X7_layPlan_125 {Γ : Gm} {Ret : Option Value → Wd → Prop} {a1 a2 a3 a4 a5 a6 a7 : Int} {p0 : Nat} {w : Wd} (km : G Γ m_X7_layPlan Ret 0 0 63 [some (vR p0), some (vI a1), some (vI a2), some (vI a3), some (vI a4), some (vI a5), some (vI a6), some (vI (a7 + 1))] [] w) : G Γ m_X7_layPlan Ret 0 0 125 [some (vR p0), some (vI a1), some (vI a2), some (vI a3), some (vI a4), some (vI a5), some (vI a6), some (vI a7)] [] w := by
  refine G_iinc dX7_layPlan_125 (by decide) rfl rfl ?_
  refine G_goto dX7_layPlan_128 (tgt := 63) (by decide) ?_
  exact km
theorem k_X7_plan_0 {Γ : Gm} {Ret : Option Value → Wd → Prop} {a1 : Int} {p0 : Nat} {w : Wd} (kt : (-2) ≤ a1 → G Γ m_X7_plan Ret 0 0 8 [some (vR p0), some (vI a1)] [] w) (kf : ¬ ((-2) ≤ a1) → G Γ m_X7_plan Ret 0 0 6 [some (vR p0), some (vI a1)] [] w) (h1 : sm a1 := by omega) : G Γ m_X7_plan Ret 0 0 0 [some (vR p0), some (vI a1)] [] w := by
  refine G_iload_n dX7_plan_0 rfl ?_
  refine G_bipush dX7_plan_1 (by decide +kernel) ?_
  exact G_icmp_ge dX7_plan_3 (by decide) h1 (by decide) kt kf
theorem k_X7_plan_8 {Γ : Gm} {Ret : Option Value → Wd → Prop} {a1 : Int} {p0 : Nat} {w : Wd} {Q : Wd → Prop} (c2 : SpV Γ m_X7_layPlan [vR p0] w Q) (kq : ∀ u : Wd, Q u → G Γ m_X7_plan Ret 0 0 12 [some (vR p0), some (vI a1)] [] u) (h1 : sh w p0 = some (.inr 7) := by assumption) : G Γ m_X7_plan Ret 0 0 8 [some (vR p0), some (vI a1)] [] w := by
  refine G_aload_n dX7_plan_8 rfl ?_
  exact G_VV (as := []) (st := []) n0_X7_layPlan dX7_plan_9 ml_RX7_199 mc_X7_layPlan rfl ⟨by decide, ⟨Nat.le_of_ble_eq_true rfl, Nat.le_of_ble_eq_true rfl⟩, Nat.le_of_ble_eq_true rfl⟩ h1 ⟨_, _, rfl⟩ c2 (fun u hq => kq u hq)
theorem k_X7_plan_6 {Γ : Gm} {Ret : Option Value → Wd → Prop} {o0 o1 : Option Value} {w : Wd} (kr : Ret (some (vI (-1))) w) : G Γ m_X7_plan Ret 0 0 6 [o0, o1] [] w := by
  refine G_const dX7_plan_6 ?_
  exact G_reti dX7_plan_7 trivial ⟨rfl, Nat.le_of_ble_eq_true rfl⟩ kr
theorem k_X7_plan_12 {Γ : Gm} {Ret : Option Value → Wd → Prop} {a1 : Int} {p0 : Nat} {w : Wd} (kt : 0 ≤ (wI w p0 25) → G Γ m_X7_plan Ret 0 0 22 [some (vR p0), some (vI a1)] [] w) (kf : ¬ (0 ≤ (wI w p0 25)) → G Γ m_X7_plan Ret 0 0 19 [some (vR p0), some (vI a1)] [] w) (h1 : sh w p0 = some (.inr 7) := by assumption) (h2 : sm (wI w p0 25) := by omega) : G Γ m_X7_plan Ret 0 0 12 [some (vR p0), some (vI a1)] [] w := by
  refine G_aload_n dX7_plan_12 rfl ?_
  refine G_getI dX7_plan_13 fl_RX7_183 h1 rfl ?_
  exact G_if_ge dX7_plan_16 (by decide) h2 kt kf
theorem k_X7_plan_22 {Γ : Gm} {Ret : Option Value → Wd → Prop} {a1 : Int} {p0 : Nat} {w : Wd} (kt : a1 ≠ (-1) → G Γ m_X7_plan Ret 0 0 34 [some (vR p0), some (vI a1)] [] w) (kf : a1 = (-1) → G Γ m_X7_plan Ret 0 0 27 [some (vR p0), some (vI a1)] [] w) (h1 : sm a1 := by omega) : G Γ m_X7_plan Ret 0 0 22 [some (vR p0), some (vI a1)] [] w := by
  refine G_iload_n dX7_plan_22 rfl ?_
  refine G_const dX7_plan_23 ?_
  exact G_icmp_ne dX7_plan_24 (by decide) h1 (by decide) kt kf
theorem k_X7_plan_19 {Γ : Gm} {Ret : Option Value → Wd → Prop} {o0 o1 : Option Value} {w : Wd} (kr : Ret (some (vI (-4))) w) : G Γ m_X7_plan Ret 0 0 19 [o0, o1] [] w := by
  refine G_bipush dX7_plan_19 (by decide +kernel) ?_
  exact G_reti dX7_plan_21 trivial ⟨rfl, Nat.le_of_ble_eq_true rfl⟩ kr
theorem k_X7_plan_34 {Γ : Gm} {Ret : Option Value → Wd → Prop} {a1 : Int} {p0 : Nat} {w : Wd} (kt : a1 ≠ (-2) → G Γ m_X7_plan Ret 0 0 47 [some (vR p0), some (vI a1)] [] w) (kf : a1 = (-2) → G Γ m_X7_plan Ret 0 0 40 [some (vR p0), some (vI a1)] [] w) (h1 : sm a1 := by omega) : G Γ m_X7_plan Ret 0 0 34 [some (vR p0), some (vI a1)] [] w := by
  refine G_iload_n dX7_plan_34 rfl ?_
  refine G_bipush dX7_plan_35 (by decide +kernel) ?_
  exact G_icmp_ne dX7_plan_37 (by decide) h1 (by decide) kt kf
theorem k_X7_plan_27 {Γ : Gm} {Ret : Option Value → Wd → Prop} {p0 : Nat} {o1 : Option Value} {w : Wd} (kr : Ret (some (vI (wI w p0 25))) w) (h1 : sh w p0 = some (.inr 7) := by assumption) : G Γ m_X7_plan Ret 0 0 27 [some (vR p0), o1] [] w := by
  refine G_aload_n dX7_plan_27 rfl ?_
  refine G_getI dX7_plan_28 fl_RX7_183 h1 rfl ?_
  refine G_goto dX7_plan_31 (tgt := 66) (by decide) ?_
  exact G_reti dX7_plan_66 trivial ⟨rfl, Nat.le_of_ble_eq_true rfl⟩ kr
theorem k_X7_plan_47 {Γ : Gm} {Ret : Option Value → Wd → Prop} {a1 : Int} {p0 : Nat} {w : Wd} (kt : (wI w p0 24) ≤ a1 → G Γ m_X7_plan Ret 0 0 64 [some (vR p0), some (vI a1)] [] w) (kf : ¬ ((wI w p0 24) ≤ a1) → G Γ m_X7_plan Ret 0 0 55 [some (vR p0), some (vI a1)] [] w) (h1 : sh w p0 = some (.inr 7) := by assumption) (h2 : sm a1 := by omega) (h3 : sm (wI w p0 24) := by omega) : G Γ m_X7_plan Ret 0 0 47 [some (vR p0), some (vI a1)] [] w := by
  refine G_iload_n dX7_plan_47 rfl ?_
  refine G_aload_n dX7_plan_48 rfl ?_
  refine G_getI dX7_plan_49 fl_RX7_193 h1 rfl ?_
  exact G_icmp_ge dX7_plan_52 (by decide) h2 h3 kt kf
theorem k_X7_plan_40 {Γ : Gm} {Ret : Option Value → Wd → Prop} {p0 : Nat} {o1 : Option Value} {w : Wd} (kr : Ret (some (vI (wI w p0 26))) w) (h1 : sh w p0 = some (.inr 7) := by assumption) : G Γ m_X7_plan Ret 0 0 40 [some (vR p0), o1] [] w := by
  refine G_aload_n dX7_plan_40 rfl ?_
  refine G_getI dX7_plan_41 fl_RX7_186 h1 rfl ?_
  refine G_goto dX7_plan_44 (tgt := 66) (by decide) ?_
  exact G_reti dX7_plan_66 trivial ⟨rfl, Nat.le_of_ble_eq_true rfl⟩ kr
theorem k_X7_plan_64 {Γ : Gm} {Ret : Option Value → Wd → Prop} {o0 o1 : Option Value} {w : Wd} (kr : Ret (some (vI (-4))) w) : G Γ m_X7_plan Ret 0 0 64 [o0, o1] [] w := by
  refine G_bipush dX7_plan_64 (by decide +kernel) ?_
  exact G_reti dX7_plan_66 trivial ⟨rfl, Nat.le_of_ble_eq_true rfl⟩ kr
theorem k_X7_plan_55 {Γ : Gm} {Ret : Option Value → Wd → Prop} {a1 : Int} {p0 q1 n2 : Nat} {w : Wd} (kr : Ret (some (vI (wI w q1 a1))) w) (h1 : sh w p0 = some (.inr 7) := by assumption) (h2 : wR w p0 23 = vR q1 := by assumption) (h3 : sh w q1 = some (.inl (0, n2)) := by assumption) (h4 : (0 : Int) ≤ a1 ∧ a1 < (n2 : Int) := by omega) (h5 : n2 < 2147483648 := by omega) : G Γ m_X7_plan Ret 0 0 55 [some (vR p0), some (vI a1)] [] w := by
  refine G_aload_n dX7_plan_55 rfl ?_
  refine G_getR dX7_plan_56 fl_RX7_49 h1 rfl h2 ?_
  refine G_iload_n dX7_plan_59 rfl ?_
  refine G_iald dX7_plan_60 h3 h4 h5 ?_
  refine G_goto dX7_plan_61 (tgt := 66) (by decide) ?_
  exact G_reti dX7_plan_66 trivial ⟨rfl, Nat.le_of_ble_eq_true rfl⟩ kr
theorem k_X7_begin_0 {Γ : Gm} {Ret : Option Value → Wd → Prop} {p0 q1 q2 : Nat} {w : Wd} {Q : Wd → Prop} (c4 : SpV Γ m_X7_bring [vR q1, vI 0, vR q2, vI 0, vI 32] w Q) (kq : ∀ u : Wd, Q u → G Γ m_X7_begin Ret 0 0 15 [some (vR p0)] [] u) (h1 : sh w p0 = some (.inr 7) := by assumption) (h2 : wR w p0 14 = vR q1 := by assumption) (h3 : wR w p0 15 = vR q2 := by assumption) : G Γ m_X7_begin Ret 0 0 0 [some (vR p0)] [] w := by
  refine G_aload_n dX7_begin_0 rfl ?_
  refine G_getR dX7_begin_1 fl_RX7_31 h1 rfl h2 ?_
  refine G_const dX7_begin_4 ?_
  refine G_aload_n dX7_begin_5 rfl ?_
  refine G_getR dX7_begin_6 fl_RX7_34 h1 rfl h3 ?_
  refine G_const dX7_begin_9 ?_
  refine G_bipush dX7_begin_10 (by decide +kernel) ?_
  exact G_SV (as := [vR q1, vI 0, vR q2, vI 0, vI 32]) (st := []) n0_X7_bring dX7_begin_12 ml_RX7_110 mc_X7_bring rfl ⟨by decide, ⟨Nat.le_of_ble_eq_true rfl, Nat.le_of_ble_eq_true rfl⟩, Nat.le_of_ble_eq_true rfl⟩ c4 (fun u hq => kq u hq)
theorem k_X7_begin_15 {Γ : Gm} {Ret : Option Value → Wd → Prop} {o0 : Option Value} {w : Wd} (kr : Ret none w) : G Γ m_X7_begin Ret 0 0 15 [o0] [] w := by
  exact G_retv dX7_begin_15 trivial ⟨rfl, Nat.le_of_ble_eq_true rfl⟩ kr
theorem k_X7_leastKick_0 {Γ : Gm} {Ret : Option Value → Wd → Prop} {a2 a3 : Int} {p0 p1 : Nat} {w : Wd} (km : G Γ m_X7_leastKick Ret 0 0 3 [some (vR p0), some (vR p1), some (vI a2), some (vI a3), some (vI 0), none] [] w) : G Γ m_X7_leastKick Ret 0 0 0 [some (vR p0), some (vR p1), some (vI a2), some (vI a3), none, none] [] w := by
  refine G_const dX7_leastKick_0 ?_
  refine G_istore dX7_leastKick_1 (by decide) rfl ?_
  exact km
theorem k_X7_leastKick_3 {Γ : Gm} {Ret : Option Value → Wd → Prop} {a2 a3 a4 : Int} {p0 p1 : Nat} {o5 : Option Value} {w : Wd} (kt : 20 < a4 → G Γ m_X7_leastKick Ret 0 0 46 [some (vR p0), some (vR p1), some (vI a2), some (vI a3), some (vI a4), o5] [] w) (kf : ¬ (20 < a4) → G Γ m_X7_leastKick Ret 0 0 10 [some (vR p0), some (vR p1), some (vI a2), some (vI a3), some (vI a4), o5] [] w) (h1 : sm a4 := by omega) : G Γ m_X7_leastKick Ret 0 0 3 [some (vR p0), some (vR p1), some (vI a2), some (vI a3), some (vI a4), o5] [] w := by
  refine G_iload dX7_leastKick_3 rfl ?_
  refine G_bipush dX7_leastKick_5 (by decide +kernel) ?_
  exact G_icmp_gt dX7_leastKick_7 (by decide) h1 (by decide) kt kf
theorem k_X7_leastKick_46 {Γ : Gm} {Ret : Option Value → Wd → Prop} {o0 o1 o2 o3 o4 o5 : Option Value} {w : Wd} (kr : Ret (some (vI (-4))) w) : G Γ m_X7_leastKick Ret 0 0 46 [o0, o1, o2, o3, o4, o5] [] w := by
  refine G_bipush dX7_leastKick_46 (by decide +kernel) ?_
  exact G_reti dX7_leastKick_48 trivial ⟨rfl, Nat.le_of_ble_eq_true rfl⟩ kr
theorem k_X7_leastKick_10 {Γ : Gm} {Ret : Option Value → Wd → Prop} {a2 a3 a4 z1 : Int} {p0 p1 : Nat} {o5 : Option Value} {w : Wd} (c2 : SpP Γ m_X7_tightBy [vR p0, vR p1, vI a2, vI a4] w z1) (kt : z1 < a3 → G Γ m_X7_leastKick Ret 0 0 40 [some (vR p0), some (vR p1), some (vI a2), some (vI a3), some (vI a4), some (vI z1)] [] w) (kf : ¬ (z1 < a3) → G Γ m_X7_leastKick Ret 0 0 26 [some (vR p0), some (vR p1), some (vI a2), some (vI a3), some (vI a4), some (vI z1)] [] w) (h1 : sh w p0 = some (.inr 7) := by assumption) (h3 : sm z1 := by omega) (h4 : sm a3 := by omega) : G Γ m_X7_leastKick Ret 0 0 10 [some (vR p0), some (vR p1), some (vI a2), some (vI a3), some (vI a4), o5] [] w := by
  refine G_aload_n dX7_leastKick_10 rfl ?_
  refine G_aload_n dX7_leastKick_11 rfl ?_
  refine G_iload_n dX7_leastKick_12 rfl ?_
  refine G_iload dX7_leastKick_13 rfl ?_
  refine G_VP (as := [vR p1, vI a2, vI a4]) (st := []) n0_X7_tightBy dX7_leastKick_15 ml_RX7_158 mc_X7_tightBy rfl ⟨by decide, ⟨Nat.le_of_ble_eq_true rfl, Nat.le_of_ble_eq_true rfl⟩, Nat.le_of_ble_eq_true rfl⟩ h1 ⟨_, _, rfl⟩ c2 ?_
  refine G_istore dX7_leastKick_18 (by decide) rfl ?_
  refine G_iload dX7_leastKick_20 rfl ?_
  refine G_iload_n dX7_leastKick_22 rfl ?_
  exact G_icmp_lt dX7_leastKick_23 (by decide) h3 h4 kt kf
theorem k_X7_leastKick_40 {Γ : Gm} {Ret : Option Value → Wd → Prop} {a2 a3 a4 : Int} {p0 p1 : Nat} {o5 : Option Value} {w : Wd} (km : G Γ m_X7_leastKick Ret 0 0 3 [some (vR p0), some (vR p1), some (vI a2), some (vI a3), some (vI (a4 + 1)), o5] [] w) : G Γ m_X7_leastKick Ret 0 0 40 [some (vR p0), some (vR p1), some (vI a2), some (vI a3), some (vI a4), o5] [] w := by
  refine G_iinc dX7_leastKick_40 (by decide) rfl rfl ?_
  refine G_goto dX7_leastKick_43 (tgt := 3) (by decide) ?_
  exact km
theorem k_X7_leastKick_26 {Γ : Gm} {Ret : Option Value → Wd → Prop} {a2 a3 a4 a5 : Int} {p0 p1 q1 n2 : Nat} {w : Wd} (kt : (wI w q1 3) < a5 → G Γ m_X7_leastKick Ret 0 0 40 [some (vR p0), some (vR p1), some (vI a2), some (vI a3), some (vI a4), some (vI a5)] [] w) (kf : ¬ ((wI w q1 3) < a5) → G Γ m_X7_leastKick Ret 0 0 37 [some (vR p0), some (vR p1), some (vI a2), some (vI a3), some (vI a4), some (vI a5)] [] w) (h1 : sh w p0 = some (.inr 7) := by assumption) (h2 : wR w p0 13 = vR q1 := by assumption) (h3 : sh w q1 = some (.inl (0, n2)) := by assumption) (h4 : (0 : Int) ≤ 3 ∧ 3 < (n2 : Int) := by omega) (h5 : n2 < 2147483648 := by omega) (h6 : sm a5 := by omega) (h7 : sm (wI w q1 3) := by omega) : G Γ m_X7_leastKick Ret 0 0 26 [some (vR p0), some (vR p1), some (vI a2), some (vI a3), some (vI a4), some (vI a5)] [] w := by
  refine G_iload dX7_leastKick_26 rfl ?_
  refine G_aload_n dX7_leastKick_28 rfl ?_
  refine G_getR dX7_leastKick_29 fl_RX7_28 h1 rfl h2 ?_
  refine G_const dX7_leastKick_32 ?_
  refine G_iald dX7_leastKick_33 h3 h4 h5 ?_
  exact G_icmp_gt dX7_leastKick_34 (by decide) h6 h7 kt kf
theorem k_X7_leastKick_37 {Γ : Gm} {Ret : Option Value → Wd → Prop} {a4 : Int} {o0 o1 o2 o3 o5 : Option Value} {w : Wd} (kr : Ret (some (vI a4)) w) : G Γ m_X7_leastKick Ret 0 0 37 [o0, o1, o2, o3, some (vI a4), o5] [] w := by
  refine G_iload dX7_leastKick_37 rfl ?_
  exact G_reti dX7_leastKick_39 trivial ⟨rfl, Nat.le_of_ble_eq_true rfl⟩ kr
theorem k_X7_layOrder_0 {Γ : Gm} {Ret : Option Value → Wd → Prop} {z4 : Int} {p0 q1 n2 : Nat} {w : Wd} (c7 : SpP Γ m_X7_bits [vI (zand 15 (zxor (zor (wI w q1 29) (wI w q1 30)) (-1)))] w z4) (km : G Γ m_X7_layOrder Ret 0 0 38 [some (vR p0), some (vI (zand 15 (zxor (zor (wI w q1 29) (wI w q1 30)) (-1)))), some (vI z4), some (vI 0), none, none, none, none] [] (stI (stI w p0 25 (-1)) p0 24 z4)) (h1 : sh w p0 = some (.inr 7) := by assumption) (h2 : wR w p0 14 = vR q1 := by assumption) (h3 : sh w q1 = some (.inl (0, n2)) := by assumption) (h4 : (0 : Int) ≤ 29 ∧ 29 < (n2 : Int) := by omega) (h5 : n2 < 2147483648 := by omega) (h6 : (0 : Int) ≤ 30 ∧ 30 < (n2 : Int) := by omega) : G Γ m_X7_layOrder Ret 0 0 0 [some (vR p0), none, none, none, none, none, none, none] [] w := by
  refine G_bipush dX7_layOrder_0 (by decide +kernel) ?_
  refine G_aload_n dX7_layOrder_2 rfl ?_
  refine G_getR dX7_layOrder_3 fl_RX7_31 h1 rfl h2 ?_
  refine G_bipush dX7_layOrder_6 (by decide +kernel) ?_
  refine G_iald dX7_layOrder_8 h3 h4 h5 ?_
  refine G_aload_n dX7_layOrder_9 rfl ?_
  refine G_getR dX7_layOrder_10 fl_RX7_31 h1 rfl h2 ?_
  refine G_bipush dX7_layOrder_13 (by decide +kernel) ?_
  refine G_iald dX7_layOrder_15 h3 h6 h5 ?_
  refine G_ior dX7_layOrder_16 ?_
  refine G_const dX7_layOrder_17 ?_
  refine G_ixor dX7_layOrder_18 ?_
  refine G_iand dX7_layOrder_19 ?_
  refine G_istore_n dX7_layOrder_20 (by decide) rfl ?_
  refine G_iload_n dX7_layOrder_21 rfl ?_
  refine G_SP (as := [vI (zand 15 (zxor (zor (wI w q1 29) (wI w q1 30)) (-1)))]) (st := []) n0_X7_bits dX7_layOrder_22 ml_RX7_151 mc_X7_bits rfl ⟨by decide, ⟨Nat.le_of_ble_eq_true rfl, Nat.le_of_ble_eq_true rfl⟩, Nat.le_of_ble_eq_true rfl⟩ c7 ?_
  refine G_istore_n dX7_layOrder_25 (by decide) rfl ?_
  refine G_aload_n dX7_layOrder_26 rfl ?_
  refine G_const dX7_layOrder_27 ?_
  refine G_putI dX7_layOrder_28 fl_RX7_183 h1 rfl ?_
  refine G_aload_n dX7_layOrder_31 rfl ?_
  refine G_iload_n dX7_layOrder_32 rfl ?_
  refine G_putI dX7_layOrder_33 fl_RX7_193 h1 rfl ?_
  refine G_const dX7_layOrder_36 ?_
  refine G_istore_n dX7_layOrder_37 (by decide) rfl ?_
  exact km
theorem k_X7_layOrder_38 {Γ : Gm} {Ret : Option Value → Wd → Prop} {a1 a2 a3 : Int} {p0 : Nat} {o4 o5 o6 o7 : Option Value} {w : Wd} (kt : 256 ≤ a3 → G Γ m_X7_layOrder Ret 0 0 221 [some (vR p0), some (vI a1), some (vI a2), some (vI a3), o4, o5, o6, o7] [] w) (kf : ¬ (256 ≤ a3) → G Γ m_X7_layOrder Ret 0 0 45 [some (vR p0), some (vI a1), some (vI a2), some (vI a3), o4, o5, o6, o7] [] w) (h1 : sm a3 := by omega) : G Γ m_X7_layOrder Ret 0 0 38 [some (vR p0), some (vI a1), some (vI a2), some (vI a3), o4, o5, o6, o7] [] w := by
  refine G_iload_n dX7_layOrder_38 rfl ?_
  refine G_sipush dX7_layOrder_39 (by decide +kernel) ?_
  exact G_icmp_ge dX7_layOrder_42 (by decide) h1 (by decide) kt kf
theorem k_X7_layOrder_221 {Γ : Gm} {Ret : Option Value → Wd → Prop} {o0 o1 o2 o3 o4 o5 o6 o7 : Option Value} {w : Wd} (kr : Ret none w) : G Γ m_X7_layOrder Ret 0 0 221 [o0, o1, o2, o3, o4, o5, o6, o7] [] w := by
  exact G_retv dX7_layOrder_221 trivial ⟨rfl, Nat.le_of_ble_eq_true rfl⟩ kr
theorem k_X7_layOrder_45 {Γ : Gm} {Ret : Option Value → Wd → Prop} {a1 a2 a3 : Int} {p0 : Nat} {o4 o5 o6 o7 : Option Value} {w : Wd} (km : G Γ m_X7_layOrder Ret 0 0 54 [some (vR p0), some (vI a1), some (vI a2), some (vI a3), some (vI 0), some (vI a3), some (vI 3), o7] [] w) : G Γ m_X7_layOrder Ret 0 0 45 [some (vR p0), some (vI a1), some (vI a2), some (vI a3), o4, o5, o6, o7] [] w := by
  refine G_const dX7_layOrder_45 ?_
  refine G_istore dX7_layOrder_46 (by decide) rfl ?_
  refine G_iload_n dX7_layOrder_48 rfl ?_
  refine G_istore dX7_layOrder_49 (by decide) rfl ?_
  refine G_const dX7_layOrder_51 ?_
  refine G_istore dX7_layOrder_52 (by decide) rfl ?_
  exact km
theorem k_X7_layOrder_54 {Γ : Gm} {Ret : Option Value → Wd → Prop} {a1 a2 a3 a4 a5 a6 : Int} {p0 : Nat} {o7 : Option Value} {w : Wd} (kt : a6 < 0 → G Γ m_X7_layOrder Ret 0 0 82 [some (vR p0), some (vI a1), some (vI a2), some (vI a3), some (vI a4), some (vI a5), some (vI a6), o7] [] w) (kf : ¬ (a6 < 0) → G Γ m_X7_layOrder Ret 0 0 59 [some (vR p0), some (vI a1), some (vI a2), some (vI a3), some (vI a4), some (vI a5), some (vI a6), o7] [] w) (h1 : sm a6 := by omega) : G Γ m_X7_layOrder Ret 0 0 54 [some (vR p0), some (vI a1), some (vI a2), some (vI a3), some (vI a4), some (vI a5), some (vI a6), o7] [] w := by
  refine G_iload dX7_layOrder_54 rfl ?_
  exact G_if_lt dX7_layOrder_56 (by decide) h1 kt kf
theorem k_X7_layOrder_82 {Γ : Gm} {Ret : Option Value → Wd → Prop} {a1 a2 a3 a4 : Int} {p0 : Nat} {o5 o6 o7 : Option Value} {w : Wd} (km : G Γ m_X7_layOrder Ret 0 0 88 [some (vR p0), some (vI a1), some (vI a2), some (vI a3), some (vI a4), o5, some (vI 1), some (vI 0)] [] w) (h1 : nl1 [o5] 1 = true := by rfl) : G Γ m_X7_layOrder Ret 0 0 82 [some (vR p0), some (vI a1), some (vI a2), some (vI a3), some (vI a4), o5, o6, o7] [] w := by
  refine G_const dX7_layOrder_82 ?_
  refine G_istore dX7_layOrder_83 (by decide) (by simpa [nl1] using h1) ?_
  refine G_const dX7_layOrder_85 ?_
  refine G_istore dX7_layOrder_86 (by decide) rfl ?_
  exact km
theorem k_X7_layOrder_59 {Γ : Gm} {Ret : Option Value → Wd → Prop} {a1 a2 a3 a4 a5 a6 : Int} {p0 q1 n2 : Nat} {o7 : Option Value} {w : Wd} (km : G Γ m_X7_layOrder Ret 0 0 54 [some (vR p0), some (vI a1), some (vI a2), some (vI a3), some (vI a4), some (vI (Int.tdiv a5 4)), some (vI (a6 + (-1))), o7] [] (stI w q1 a6 (Int.tmod a5 4))) (h1 : sh w p0 = some (.inr 7) := by assumption) (h2 : wR w p0 22 = vR q1 := by assumption) (h3 : sm a5 := by omega) (h4 : sh w q1 = some (.inl (0, n2)) := by assumption) (h5 : (0 : Int) ≤ a6 ∧ a6 < (n2 : Int) := by omega) (h6 : n2 < 2147483648 := by omega) : G Γ m_X7_layOrder Ret 0 0 59 [some (vR p0), some (vI a1), some (vI a2), some (vI a3), some (vI a4), some (vI a5), some (vI a6), o7] [] w := by
  refine G_aload_n dX7_layOrder_59 rfl ?_
  refine G_getR dX7_layOrder_60 fl_RX7_46 h1 rfl h2 ?_
  refine G_iload dX7_layOrder_63 rfl ?_
  refine G_iload dX7_layOrder_65 rfl ?_
  refine G_const dX7_layOrder_67 ?_
  refine G_irem dX7_layOrder_68 h3 (by decide) (by decide) (by decide) ?_
  refine G_iast dX7_layOrder_69 h4 h5 h6 ?_
  refine G_iload dX7_layOrder_70 rfl ?_
  refine G_const dX7_layOrder_72 ?_
  refine G_idiv dX7_layOrder_73 h3 (by decide) (by decide) (by decide) ?_
  refine G_istore dX7_layOrder_74 (by decide) rfl ?_
  refine G_iinc dX7_layOrder_76 (by decide) rfl rfl ?_
  refine G_goto dX7_layOrder_79 (tgt := 54) (by decide) ?_
  exact km
theorem k_X7_layOrder_88 {Γ : Gm} {Ret : Option Value → Wd → Prop} {a1 a2 a3 a4 a6 a7 : Int} {p0 : Nat} {o5 : Option Value} {w : Wd} (kt : 4 ≤ a7 → G Γ m_X7_layOrder Ret 0 0 152 [some (vR p0), some (vI a1), some (vI a2), some (vI a3), some (vI a4), o5, some (vI a6), some (vI a7)] [] w) (kf : ¬ (4 ≤ a7) → G Γ m_X7_layOrder Ret 0 0 94 [some (vR p0), some (vI a1), some (vI a2), some (vI a3), some (vI a4), o5, some (vI a6), some (vI a7)] [] w) (h1 : sm a7 := by omega) : G Γ m_X7_layOrder Ret 0 0 88 [some (vR p0), some (vI a1), some (vI a2), some (vI a3), some (vI a4), o5, some (vI a6), some (vI a7)] [] w := by
  refine G_iload dX7_layOrder_88 rfl ?_
  refine G_const dX7_layOrder_90 ?_
  exact G_icmp_ge dX7_layOrder_91 (by decide) h1 (by decide) kt kf
theorem k_X7_layOrder_152 {Γ : Gm} {Ret : Option Value → Wd → Prop} {a1 a2 a3 a4 a6 : Int} {p0 : Nat} {o5 o7 : Option Value} {w : Wd} (kt : a4 ≠ a1 → G Γ m_X7_layOrder Ret 0 0 171 [some (vR p0), some (vI a1), some (vI a2), some (vI a3), some (vI a4), o5, some (vI a6), o7] [] w) (kf : a4 = a1 → G Γ m_X7_layOrder Ret 0 0 158 [some (vR p0), some (vI a1), some (vI a2), some (vI a3), some (vI a4), o5, some (vI a6), o7] [] w) (h1 : sm a4 := by omega) (h2 : sm a1 := by omega) : G Γ m_X7_layOrder Ret 0 0 152 [some (vR p0), some (vI a1), some (vI a2), some (vI a3), some (vI a4), o5, some (vI a6), o7] [] w := by
  refine G_iload dX7_layOrder_152 rfl ?_
  refine G_iload_n dX7_layOrder_154 rfl ?_
  exact G_icmp_ne dX7_layOrder_155 (by decide) h1 h2 kt kf
theorem k_X7_layOrder_94 {Γ : Gm} {Ret : Option Value → Wd → Prop} {a1 a2 a3 a4 a6 a7 : Int} {p0 : Nat} {o5 : Option Value} {w : Wd} (kt : a2 ≤ a7 → G Γ m_X7_layOrder Ret 0 0 114 [some (vR p0), some (vI a1), some (vI a2), some (vI a3), some (vI a4), o5, some (vI a6), some (vI a7)] [vI a4] w) (kf : ¬ (a2 ≤ a7) → G Γ m_X7_layOrder Ret 0 0 102 [some (vR p0), some (vI a1), some (vI a2), some (vI a3), some (vI a4), o5, some (vI a6), some (vI a7)] [vI a4] w) (h1 : sm a7 := by omega) (h2 : sm a2 := by omega) : G Γ m_X7_layOrder Ret 0 0 94 [some (vR p0), some (vI a1), some (vI a2), some (vI a3), some (vI a4), o5, some (vI a6), some (vI a7)] [] w := by
  refine G_iload dX7_layOrder_94 rfl ?_
  refine G_iload dX7_layOrder_96 rfl ?_
  refine G_iload_n dX7_layOrder_98 rfl ?_
  exact G_icmp_ge dX7_layOrder_99 (by decide) h1 h2 kt kf
theorem k_X7_layOrder_171 {Γ : Gm} {Ret : Option Value → Wd → Prop} {a1 a2 a3 : Int} {p0 : Nat} {o4 o5 o6 o7 : Option Value} {w : Wd} (km : G Γ m_X7_layOrder Ret 0 0 38 [some (vR p0), some (vI a1), some (vI a2), some (vI (a3 + 1)), o4, o5, o6, some (vI (-1))] [] w) (h1 : nl1 [o6] 1 = true := by rfl) : G Γ m_X7_layOrder Ret 0 0 171 [some (vR p0), some (vI a1), some (vI a2), some (vI a3), o4, o5, o6, o7] [] w := by
  refine G_const dX7_layOrder_171 ?_
  refine G_istore dX7_layOrder_172 (by decide) (by simpa [nl1] using h1) ?_
  refine G_iload dX7_layOrder_174 rfl ?_
  refine G_if_lt dX7_layOrder_176 (tgt := 215) (by decide) (by decide) (fun _ => ?_) (fun h => absurd h (by decide))
  refine G_iinc dX7_layOrder_215 (by decide) rfl rfl ?_
  refine G_goto dX7_layOrder_218 (tgt := 38) (by decide) ?_
  exact km
theorem k_X7_layOrder_158 {Γ : Gm} {Ret : Option Value → Wd → Prop} {a1 a2 a3 a6 : Int} {p0 : Nat} {o4 o5 o7 : Option Value} {w : Wd} (kt : a6 = 0 → G Γ m_X7_layOrder Ret 0 0 171 [some (vR p0), some (vI a1), some (vI a2), some (vI a3), o4, o5, some (vI a6), o7] [] w) (kf : ¬ (a6 = 0) → G Γ m_X7_layOrder Ret 0 0 163 [some (vR p0), some (vI a1), some (vI a2), some (vI a3), o4, o5, some (vI a6), o7] [] w) (h1 : sm a6 := by omega) : G Γ m_X7_layOrder Ret 0 0 158 [some (vR p0), some (vI a1), some (vI a2), some (vI a3), o4, o5, some (vI a6), o7] [] w := by
  refine G_iload dX7_layOrder_158 rfl ?_
  exact G_if_eq dX7_layOrder_160 (by decide) h1 kt kf
theorem k_X7_layOrder_114 {Γ : Gm} {Ret : Option Value → Wd → Prop} {a1 a2 a3 a6 a7 s0 : Int} {p0 : Nat} {o4 o5 : Option Value} {w : Wd} (kt : a6 = 0 → G Γ m_X7_layOrder Ret 0 0 143 [some (vR p0), some (vI a1), some (vI a2), some (vI a3), some (vI (zor s0 0)), o5, some (vI a6), some (vI a7)] [] w) (kf : ¬ (a6 = 0) → G Γ m_X7_layOrder Ret 0 0 123 [some (vR p0), some (vI a1), some (vI a2), some (vI a3), some (vI (zor s0 0)), o5, some (vI a6), some (vI a7)] [] w) (h1 : sm a6 := by omega) : G Γ m_X7_layOrder Ret 0 0 114 [some (vR p0), some (vI a1), some (vI a2), some (vI a3), o4, o5, some (vI a6), some (vI a7)] [vI s0] w := by
  refine G_const dX7_layOrder_114 ?_
  refine G_ior dX7_layOrder_115 ?_
  refine G_istore dX7_layOrder_116 (by decide) rfl ?_
  refine G_iload dX7_layOrder_118 rfl ?_
  exact G_if_eq dX7_layOrder_120 (by decide) h1 kt kf
theorem k_X7_layOrder_102 {Γ : Gm} {Ret : Option Value → Wd → Prop} {a1 a2 a3 a6 a7 s0 : Int} {p0 q1 n2 : Nat} {o4 o5 : Option Value} {w : Wd} (kt : a6 = 0 → G Γ m_X7_layOrder Ret 0 0 143 [some (vR p0), some (vI a1), some (vI a2), some (vI a3), some (vI (zor s0 (zshl 1 (wI w q1 a7)))), o5, some (vI a6), some (vI a7)] [] w) (kf : ¬ (a6 = 0) → G Γ m_X7_layOrder Ret 0 0 123 [some (vR p0), some (vI a1), some (vI a2), some (vI a3), some (vI (zor s0 (zshl 1 (wI w q1 a7)))), o5, some (vI a6), some (vI a7)] [] w) (h1 : sh w p0 = some (.inr 7) := by assumption) (h2 : wR w p0 22 = vR q1 := by assumption) (h3 : sh w q1 = some (.inl (0, n2)) := by assumption) (h4 : (0 : Int) ≤ a7 ∧ a7 < (n2 : Int) := by omega) (h5 : n2 < 2147483648 := by omega) (h6 : sm a6 := by omega) : G Γ m_X7_layOrder Ret 0 0 102 [some (vR p0), some (vI a1), some (vI a2), some (vI a3), o4, o5, some (vI a6), some (vI a7)] [vI s0] w := by
  refine G_const dX7_layOrder_102 ?_
  refine G_aload_n dX7_layOrder_103 rfl ?_
  refine G_getR dX7_layOrder_104 fl_RX7_46 h1 rfl h2 ?_
  refine G_iload dX7_layOrder_107 rfl ?_
  refine G_iald dX7_layOrder_109 h3 h4 h5 ?_
  refine G_ishl dX7_layOrder_110 ?_
  refine G_goto dX7_layOrder_111 (tgt := 115) (by decide) ?_
  refine G_ior dX7_layOrder_115 ?_
  refine G_istore dX7_layOrder_116 (by decide) rfl ?_
  refine G_iload dX7_layOrder_118 rfl ?_
  exact G_if_eq dX7_layOrder_120 (by decide) h6 kt kf
theorem k_X7_layOrder_163 {Γ : Gm} {Ret : Option Value → Wd → Prop} {a1 a2 a3 : Int} {p0 : Nat} {o4 o5 o6 o7 : Option Value} {w : Wd} {Q : Int → Wd → Prop} (c2 : SpI Γ m_X7_kicks [vR p0, vI a2] w Q) (kq : ∀ (z : Int) (u : Wd), Q z u → G Γ m_X7_layOrder Ret 0 0 168 [some (vR p0), some (vI a1), some (vI a2), some (vI a3), o4, o5, o6, o7] [vI z] u) (h1 : sh w p0 = some (.inr 7) := by assumption) : G Γ m_X7_layOrder Ret 0 0 163 [some (vR p0), some (vI a1), some (vI a2), some (vI a3), o4, o5, o6, o7] [] w := by
  refine G_aload_n dX7_layOrder_163 rfl ?_
  refine G_iload_n dX7_layOrder_164 rfl ?_
  exact G_VI (as := [vI a2]) (st := []) n0_X7_kicks dX7_layOrder_165 ml_RX7_202 mc_X7_kicks rfl ⟨by decide, ⟨Nat.le_of_ble_eq_true rfl, Nat.le_of_ble_eq_true rfl⟩, Nat.le_of_ble_eq_true rfl⟩ h1 ⟨_, _, rfl⟩ c2 (fun z u hq => kq z u hq)
theorem k_X7_layOrder_143 {Γ : Gm} {Ret : Option Value → Wd → Prop} {a1 a2 a3 a4 a7 : Int} {p0 : Nat} {o5 o6 : Option Value} {w : Wd} (km : G Γ m_X7_layOrder Ret 0 0 88 [some (vR p0), some (vI a1), some (vI a2), some (vI a3), some (vI a4), o5, some (vI 0), some (vI (a7 + 1))] [] w) (h1 : nl1 [o5] 1 = true := by rfl) : G Γ m_X7_layOrder Ret 0 0 143 [some (vR p0), some (vI a1), some (vI a2), some (vI a3), some (vI a4), o5, o6, some (vI a7)] [] w := by
  refine G_const dX7_layOrder_143 ?_
  refine G_istore dX7_layOrder_144 (by decide) (by simpa [nl1] using h1) ?_
  refine G_iinc dX7_layOrder_146 (by decide) rfl rfl ?_
  refine G_goto dX7_layOrder_149 (tgt := 88) (by decide) ?_
  exact km
theorem k_X7_layOrder_123 {Γ : Gm} {Ret : Option Value → Wd → Prop} {a1 a2 a3 a4 a7 : Int} {p0 : Nat} {o5 o6 : Option Value} {w : Wd} (kt : a7 < a2 → G Γ m_X7_layOrder Ret 0 0 139 [some (vR p0), some (vI a1), some (vI a2), some (vI a3), some (vI a4), o5, o6, some (vI a7)] [] w) (kf : ¬ (a7 < a2) → G Γ m_X7_layOrder Ret 0 0 129 [some (vR p0), some (vI a1), some (vI a2), some (vI a3), some (vI a4), o5, o6, some (vI a7)] [] w) (h1 : sm a7 := by omega) (h2 : sm a2 := by omega) : G Γ m_X7_layOrder Ret 0 0 123 [some (vR p0), some (vI a1), some (vI a2), some (vI a3), some (vI a4), o5, o6, some (vI a7)] [] w := by
  refine G_iload dX7_layOrder_123 rfl ?_
  refine G_iload_n dX7_layOrder_125 rfl ?_
  exact G_icmp_lt dX7_layOrder_126 (by decide) h1 h2 kt kf
theorem k_X7_layOrder_168 {Γ : Gm} {Ret : Option Value → Wd → Prop} {a1 a2 a3 s0 : Int} {p0 : Nat} {o4 o5 o6 o7 : Option Value} {w : Wd} (kt : s0 < 0 → G Γ m_X7_layOrder Ret 0 0 215 [some (vR p0), some (vI a1), some (vI a2), some (vI a3), o4, o5, o6, some (vI s0)] [] w) (kf : ¬ (s0 < 0) → G Γ m_X7_layOrder Ret 0 0 179 [some (vR p0), some (vI a1), some (vI a2), some (vI a3), o4, o5, o6, some (vI s0)] [] w) (h1 : nl1 [o6] 1 = true := by rfl) (h2 : sm s0 := by omega) : G Γ m_X7_layOrder Ret 0 0 168 [some (vR p0), some (vI a1), some (vI a2), some (vI a3), o4, o5, o6, o7] [vI s0] w := by
  refine G_goto dX7_layOrder_168 (tgt := 172) (by decide) ?_
  refine G_istore dX7_layOrder_172 (by decide) (by simpa [nl1] using h1) ?_
  refine G_iload dX7_layOrder_174 rfl ?_
  exact G_if_lt dX7_layOrder_176 (by decide) h2 kt kf
theorem k_X7_layOrder_139 {Γ : Gm} {Ret : Option Value → Wd → Prop} {a1 a2 a3 a4 a7 : Int} {p0 : Nat} {o5 o6 : Option Value} {w : Wd} (km : G Γ m_X7_layOrder Ret 0 0 88 [some (vR p0), some (vI a1), some (vI a2), some (vI a3), some (vI a4), o5, some (vI 1), some (vI (a7 + 1))] [] w) (h1 : nl1 [o5] 1 = true := by rfl) : G Γ m_X7_layOrder Ret 0 0 139 [some (vR p0), some (vI a1), some (vI a2), some (vI a3), some (vI a4), o5, o6, some (vI a7)] [] w := by
  refine G_const dX7_layOrder_139 ?_
  refine G_goto dX7_layOrder_140 (tgt := 144) (by decide) ?_
  refine G_istore dX7_layOrder_144 (by decide) (by simpa [nl1] using h1) ?_
  refine G_iinc dX7_layOrder_146 (by decide) rfl rfl ?_
  refine G_goto dX7_layOrder_149 (tgt := 88) (by decide) ?_
  exact km
theorem k_X7_layOrder_129 {Γ : Gm} {Ret : Option Value → Wd → Prop} {a1 a2 a3 a4 a7 : Int} {p0 q1 n2 : Nat} {o5 o6 : Option Value} {w : Wd} (kt : (wI w q1 a7) ≠ 0 → G Γ m_X7_layOrder Ret 0 0 143 [some (vR p0), some (vI a1), some (vI a2), some (vI a3), some (vI a4), o5, o6, some (vI a7)] [] w) (kf : (wI w q1 a7) = 0 → G Γ m_X7_layOrder Ret 0 0 139 [some (vR p0), some (vI a1), some (vI a2), some (vI a3), some (vI a4), o5, o6, some (vI a7)] [] w) (h1 : sh w p0 = some (.inr 7) := by assumption) (h2 : wR w p0 22 = vR q1 := by assumption) (h3 : sh w q1 = some (.inl (0, n2)) := by assumption) (h4 : (0 : Int) ≤ a7 ∧ a7 < (n2 : Int) := by omega) (h5 : n2 < 2147483648 := by omega) (h6 : sm (wI w q1 a7) := by omega) : G Γ m_X7_layOrder Ret 0 0 129 [some (vR p0), some (vI a1), some (vI a2), some (vI a3), some (vI a4), o5, o6, some (vI a7)] [] w := by
  refine G_aload_n dX7_layOrder_129 rfl ?_
  refine G_getR dX7_layOrder_130 fl_RX7_46 h1 rfl h2 ?_
  refine G_iload dX7_layOrder_133 rfl ?_
  refine G_iald dX7_layOrder_135 h3 h4 h5 ?_
  exact G_if_ne dX7_layOrder_136 (by decide) h6 kt kf
theorem k_X7_layOrder_215 {Γ : Gm} {Ret : Option Value → Wd → Prop} {a1 a2 a3 : Int} {p0 : Nat} {o4 o5 o6 o7 : Option Value} {w : Wd} (km : G Γ m_X7_layOrder Ret 0 0 38 [some (vR p0), some (vI a1), some (vI a2), some (vI (a3 + 1)), o4, o5, o6, o7] [] w) : G Γ m_X7_layOrder Ret 0 0 215 [some (vR p0), some (vI a1), some (vI a2), some (vI a3), o4, o5, o6, o7] [] w := by
  refine G_iinc dX7_layOrder_215 (by decide) rfl rfl ?_
  refine G_goto dX7_layOrder_218 (tgt := 38) (by decide) ?_
  exact km
theorem k_X7_layOrder_179 {Γ : Gm} {Ret : Option Value → Wd → Prop} {a1 a2 a3 a7 : Int} {p0 : Nat} {o4 o5 o6 : Option Value} {w : Wd} (kt : (wI w p0 25) < 0 → G Γ m_X7_layOrder Ret 0 0 195 [some (vR p0), some (vI a1), some (vI a2), some (vI a3), o4, o5, o6, some (vI a7)] [] w) (kf : ¬ ((wI w p0 25) < 0) → G Γ m_X7_layOrder Ret 0 0 186 [some (vR p0), some (vI a1), some (vI a2), some (vI a3), o4, o5, o6, some (vI a7)] [] w) (h1 : sh w p0 = some (.inr 7) := by assumption) (h2 : sm (wI w p0 25) := by omega) : G Γ m_X7_layOrder Ret 0 0 179 [some (vR p0), some (vI a1), some (vI a2), some (vI a3), o4, o5, o6, some (vI a7)] [] w := by
  refine G_aload_n dX7_layOrder_179 rfl ?_
  refine G_getI dX7_layOrder_180 fl_RX7_183 h1 rfl ?_
  exact G_if_lt dX7_layOrder_183 (by decide) h2 kt kf
theorem k_X7_layOrder_195 {Γ : Gm} {Ret : Option Value → Wd → Prop} {a1 a2 a3 a7 : Int} {p0 q1 q2 : Nat} {o4 o5 o6 : Option Value} {w : Wd} {Q : Wd → Prop} (c4 : SpV Γ m_X7_bring [vR q1, vI 0, vR q2, vI 0, vI a2] (stI w p0 25 a7) Q) (kq : ∀ u : Wd, Q u → G Γ m_X7_layOrder Ret 0 0 215 [some (vR p0), some (vI a1), some (vI a2), some (vI a3), o4, o5, o6, some (vI a7)] [] u) (h1 : sh w p0 = some (.inr 7) := by assumption) (h2 : wR w p0 22 = vR q1 := by assumption) (h3 : wR w p0 23 = vR q2 := by assumption) : G Γ m_X7_layOrder Ret 0 0 195 [some (vR p0), some (vI a1), some (vI a2), some (vI a3), o4, o5, o6, some (vI a7)] [] w := by
  refine G_aload_n dX7_layOrder_195 rfl ?_
  refine G_iload dX7_layOrder_196 rfl ?_
  refine G_putI dX7_layOrder_198 fl_RX7_183 h1 rfl ?_
  refine G_aload_n dX7_layOrder_201 rfl ?_
  refine G_getR dX7_layOrder_202 fl_RX7_46 h1 rfl h2 ?_
  refine G_const dX7_layOrder_205 ?_
  refine G_aload_n dX7_layOrder_206 rfl ?_
  refine G_getR dX7_layOrder_207 fl_RX7_49 h1 rfl h3 ?_
  refine G_const dX7_layOrder_210 ?_
  refine G_iload_n dX7_layOrder_211 rfl ?_
  exact G_SV (as := [vR q1, vI 0, vR q2, vI 0, vI a2]) (st := []) n0_X7_bring dX7_layOrder_212 ml_RX7_110 mc_X7_bring rfl ⟨by decide, ⟨Nat.le_of_ble_eq_true rfl, Nat.le_of_ble_eq_true rfl⟩, Nat.le_of_ble_eq_true rfl⟩ c4 (fun u hq => kq u hq)
theorem k_X7_layOrder_186 {Γ : Gm} {Ret : Option Value → Wd → Prop} {a1 a2 a3 a7 : Int} {p0 : Nat} {o4 o5 o6 : Option Value} {w : Wd} (kt : (wI w p0 25) ≤ a7 → G Γ m_X7_layOrder Ret 0 0 215 [some (vR p0), some (vI a1), some (vI a2), some (vI a3), o4, o5, o6, some (vI a7)] [] w) (kf : ¬ ((wI w p0 25) ≤ a7) → G Γ m_X7_layOrder Ret 0 0 195 [some (vR p0), some (vI a1), some (vI a2), some (vI a3), o4, o5, o6, some (vI a7)] [] w) (h1 : sh w p0 = some (.inr 7) := by assumption) (h2 : sm a7 := by omega) (h3 : sm (wI w p0 25) := by omega) : G Γ m_X7_layOrder Ret 0 0 186 [some (vR p0), some (vI a1), some (vI a2), some (vI a3), o4, o5, o6, some (vI a7)] [] w := by
  refine G_iload dX7_layOrder_186 rfl ?_
  refine G_aload_n dX7_layOrder_188 rfl ?_
  refine G_getI dX7_layOrder_189 fl_RX7_183 h1 rfl ?_
  exact G_icmp_ge dX7_layOrder_192 (by decide) h2 h3 kt kf
theorem k_X7_kicks_0 {Γ : Gm} {Ret : Option Value → Wd → Prop} {a1 : Int} {p0 : Nat} {w : Wd} {Q : Wd → Prop} (c2 : SpV Γ m_X7_begin [vR p0] w Q) (kq : ∀ u : Wd, Q u → G Γ m_X7_kicks Ret 0 0 4 [some (vR p0), some (vI a1), none, none, none] [] u) (h1 : sh w p0 = some (.inr 7) := by assumption) : G Γ m_X7_kicks Ret 0 0 0 [some (vR p0), some (vI a1), none, none, none] [] w := by
  refine G_aload_n dX7_kicks_0 rfl ?_
  exact G_VV (as := []) (st := []) n0_X7_begin dX7_kicks_1 ml_RX7_205 mc_X7_begin rfl ⟨by decide, ⟨Nat.le_of_ble_eq_true rfl, Nat.le_of_ble_eq_true rfl⟩, Nat.le_of_ble_eq_true rfl⟩ h1 ⟨_, _, rfl⟩ c2 (fun u hq => kq u hq)
theorem k_X7_kicks_4 {Γ : Gm} {Ret : Option Value → Wd → Prop} {a1 : Int} {p0 : Nat} {o2 o3 o4 : Option Value} {w : Wd} (km : G Γ m_X7_kicks Ret 0 0 8 [some (vR p0), some (vI a1), some (vI 0), some (vI 0), o4] [] w) : G Γ m_X7_kicks Ret 0 0 4 [some (vR p0), some (vI a1), o2, o3, o4] [] w := by
  refine G_const dX7_kicks_4 ?_
  refine G_istore_n dX7_kicks_5 (by decide) rfl ?_
  refine G_const dX7_kicks_6 ?_
  refine G_istore_n dX7_kicks_7 (by decide) rfl ?_
  exact km
theorem k_X7_kicks_8 {Γ : Gm} {Ret : Option Value → Wd → Prop} {a1 a2 a3 : Int} {p0 : Nat} {o4 : Option Value} {w : Wd} (kt : a1 ≤ a3 → G Γ m_X7_kicks Ret 0 0 80 [some (vR p0), some (vI a1), some (vI a2), some (vI a3), o4] [] w) (kf : ¬ (a1 ≤ a3) → G Γ m_X7_kicks Ret 0 0 13 [some (vR p0), some (vI a1), some (vI a2), some (vI a3), o4] [] w) (h1 : sm a3 := by omega) (h2 : sm a1 := by omega) : G Γ m_X7_kicks Ret 0 0 8 [some (vR p0), some (vI a1), some (vI a2), some (vI a3), o4] [] w := by
  refine G_iload_n dX7_kicks_8 rfl ?_
  refine G_iload_n dX7_kicks_9 rfl ?_
  exact G_icmp_ge dX7_kicks_10 (by decide) h1 h2 kt kf
theorem k_X7_kicks_80 {Γ : Gm} {Ret : Option Value → Wd → Prop} {a2 : Int} {o0 o1 o3 o4 : Option Value} {w : Wd} (kr : Ret (some (vI a2)) w) : G Γ m_X7_kicks Ret 0 0 80 [o0, o1, some (vI a2), o3, o4] [] w := by
  refine G_iload_n dX7_kicks_80 rfl ?_
  exact G_reti dX7_kicks_81 trivial ⟨rfl, Nat.le_of_ble_eq_true rfl⟩ kr
theorem k_X7_kicks_13 {Γ : Gm} {Ret : Option Value → Wd → Prop} {a1 a2 a3 : Int} {p0 q1 q2 n3 n5 : Nat} {o4 : Option Value} {w : Wd} (kt : (wI w q1 29) ≠ 0 → G Γ m_X7_kicks Ret 0 0 38 [some (vR p0), some (vI a1), some (vI a2), some (vI a3), o4] [vI (wI w q2 a3), vR q1, vR p0] w) (kf : (wI w q1 29) = 0 → G Γ m_X7_kicks Ret 0 0 34 [some (vR p0), some (vI a1), some (vI a2), some (vI a3), o4] [vI (wI w q2 a3), vR q1, vR p0] w) (h1 : sh w p0 = some (.inr 7) := by assumption) (h2 : wR w p0 15 = vR q1 := by assumption) (h3 : wR w p0 22 = vR q2 := by assumption) (h4 : sh w q2 = some (.inl (0, n3)) := by assumption) (h5 : (0 : Int) ≤ a3 ∧ a3 < (n3 : Int) := by omega) (h6 : n3 < 2147483648 := by omega) (h7 : sh w q1 = some (.inl (0, n5)) := by assumption) (h8 : (0 : Int) ≤ 29 ∧ 29 < (n5 : Int) := by omega) (h9 : n5 < 2147483648 := by omega) (h10 : sm (wI w q1 29) := by omega) : G Γ m_X7_kicks Ret 0 0 13 [some (vR p0), some (vI a1), some (vI a2), some (vI a3), o4] [] w := by
  refine G_aload_n dX7_kicks_13 rfl ?_
  refine G_aload_n dX7_kicks_14 rfl ?_
  refine G_getR dX7_kicks_15 fl_RX7_34 h1 rfl h2 ?_
  refine G_aload_n dX7_kicks_18 rfl ?_
  refine G_getR dX7_kicks_19 fl_RX7_46 h1 rfl h3 ?_
  refine G_iload_n dX7_kicks_22 rfl ?_
  refine G_iald dX7_kicks_23 h4 h5 h6 ?_
  refine G_aload_n dX7_kicks_24 rfl ?_
  refine G_getR dX7_kicks_25 fl_RX7_34 h1 rfl h2 ?_
  refine G_bipush dX7_kicks_28 (by decide +kernel) ?_
  refine G_iald dX7_kicks_30 h7 h8 h9 ?_
  exact G_if_ne dX7_kicks_31 (by decide) h10 kt kf
theorem k_X7_kicks_38 {Γ : Gm} {Ret : Option Value → Wd → Prop} {a1 a2 a3 s2 z1 : Int} {p0 t0 t1 : Nat} {o4 : Option Value} {w : Wd} (c2 : SpP Γ m_X7_leastKick [vR t0, vR t1, vI s2, vI 4] w z1) (kt : z1 ≠ (-4) → G Γ m_X7_kicks Ret 0 0 53 [some (vR p0), some (vI a1), some (vI a2), some (vI a3), some (vI z1)] [] w) (kf : z1 = (-4) → G Γ m_X7_kicks Ret 0 0 51 [some (vR p0), some (vI a1), some (vI a2), some (vI a3), some (vI z1)] [] w) (h1 : sh w t0 = some (.inr 7) := by assumption) (h3 : sm z1 := by omega) : G Γ m_X7_kicks Ret 0 0 38 [some (vR p0), some (vI a1), some (vI a2), some (vI a3), o4] [vI s2, vR t1, vR t0] w := by
  refine G_const dX7_kicks_38 ?_
  refine G_VP (as := [vR t1, vI s2, vI 4]) (st := []) n0_X7_leastKick dX7_kicks_39 ml_RX7_208 mc_X7_leastKick rfl ⟨by decide, ⟨Nat.le_of_ble_eq_true rfl, Nat.le_of_ble_eq_true rfl⟩, Nat.le_of_ble_eq_true rfl⟩ h1 ⟨_, _, rfl⟩ c2 ?_
  refine G_istore dX7_kicks_42 (by decide) rfl ?_
  refine G_iload dX7_kicks_44 rfl ?_
  refine G_bipush dX7_kicks_46 (by decide +kernel) ?_
  exact G_icmp_ne dX7_kicks_48 (by decide) h3 (by decide) kt kf
theorem k_X7_kicks_34 {Γ : Gm} {Ret : Option Value → Wd → Prop} {a1 a2 a3 s2 z1 : Int} {p0 t0 t1 : Nat} {o4 : Option Value} {w : Wd} (c2 : SpP Γ m_X7_leastKick [vR t0, vR t1, vI s2, vI 2] w z1) (kt : z1 ≠ (-4) → G Γ m_X7_kicks Ret 0 0 53 [some (vR p0), some (vI a1), some (vI a2), some (vI a3), some (vI z1)] [] w) (kf : z1 = (-4) → G Γ m_X7_kicks Ret 0 0 51 [some (vR p0), some (vI a1), some (vI a2), some (vI a3), some (vI z1)] [] w) (h1 : sh w t0 = some (.inr 7) := by assumption) (h3 : sm z1 := by omega) : G Γ m_X7_kicks Ret 0 0 34 [some (vR p0), some (vI a1), some (vI a2), some (vI a3), o4] [vI s2, vR t1, vR t0] w := by
  refine G_const dX7_kicks_34 ?_
  refine G_goto dX7_kicks_35 (tgt := 39) (by decide) ?_
  refine G_VP (as := [vR t1, vI s2, vI 2]) (st := []) n0_X7_leastKick dX7_kicks_39 ml_RX7_208 mc_X7_leastKick rfl ⟨by decide, ⟨Nat.le_of_ble_eq_true rfl, Nat.le_of_ble_eq_true rfl⟩, Nat.le_of_ble_eq_true rfl⟩ h1 ⟨_, _, rfl⟩ c2 ?_
  refine G_istore dX7_kicks_42 (by decide) rfl ?_
  refine G_iload dX7_kicks_44 rfl ?_
  refine G_bipush dX7_kicks_46 (by decide +kernel) ?_
  exact G_icmp_ne dX7_kicks_48 (by decide) h3 (by decide) kt kf
theorem k_X7_kicks_53 {Γ : Gm} {Ret : Option Value → Wd → Prop} {a1 a2 a3 a4 : Int} {p0 q1 q2 n3 : Nat} {w : Wd} {Q : Wd → Prop} (c7 : SpV Γ m_X7_kick [vR p0, vR q1, vI (wI w q2 a3), vI a4] w Q) (kq : ∀ u : Wd, Q u → G Γ m_X7_kicks Ret 0 0 69 [some (vR p0), some (vI a1), some (vI a2), some (vI a3), some (vI a4)] [] u) (h1 : sh w p0 = some (.inr 7) := by assumption) (h2 : wR w p0 15 = vR q1 := by assumption) (h3 : wR w p0 22 = vR q2 := by assumption) (h4 : sh w q2 = some (.inl (0, n3)) := by assumption) (h5 : (0 : Int) ≤ a3 ∧ a3 < (n3 : Int) := by omega) (h6 : n3 < 2147483648 := by omega) : G Γ m_X7_kicks Ret 0 0 53 [some (vR p0), some (vI a1), some (vI a2), some (vI a3), some (vI a4)] [] w := by
  refine G_aload_n dX7_kicks_53 rfl ?_
  refine G_aload_n dX7_kicks_54 rfl ?_
  refine G_getR dX7_kicks_55 fl_RX7_34 h1 rfl h2 ?_
  refine G_aload_n dX7_kicks_58 rfl ?_
  refine G_getR dX7_kicks_59 fl_RX7_46 h1 rfl h3 ?_
  refine G_iload_n dX7_kicks_62 rfl ?_
  refine G_iald dX7_kicks_63 h4 h5 h6 ?_
  refine G_iload dX7_kicks_64 rfl ?_
  exact G_VV (as := [vR q1, vI (wI w q2 a3), vI a4]) (st := []) n0_X7_kick dX7_kicks_66 ml_RX7_168 mc_X7_kick rfl ⟨by decide, ⟨Nat.le_of_ble_eq_true rfl, Nat.le_of_ble_eq_true rfl⟩, Nat.le_of_ble_eq_true rfl⟩ h1 ⟨_, _, rfl⟩ c7 (fun u hq => kq u hq)
theorem k_X7_kicks_51 {Γ : Gm} {Ret : Option Value → Wd → Prop} {o0 o1 o2 o3 o4 : Option Value} {w : Wd} (kr : Ret (some (vI (-1))) w) : G Γ m_X7_kicks Ret 0 0 51 [o0, o1, o2, o3, o4] [] w := by
  refine G_const dX7_kicks_51 ?_
  exact G_reti dX7_kicks_52 trivial ⟨rfl, Nat.le_of_ble_eq_true rfl⟩ kr
theorem k_X7_kicks_69 {Γ : Gm} {Ret : Option Value → Wd → Prop} {a1 a2 a3 a4 : Int} {p0 : Nat} {w : Wd} (km : G Γ m_X7_kicks Ret 0 0 8 [some (vR p0), some (vI a1), some (vI (a2 + a4)), some (vI (a3 + 1)), some (vI a4)] [] w) : G Γ m_X7_kicks Ret 0 0 69 [some (vR p0), some (vI a1), some (vI a2), some (vI a3), some (vI a4)] [] w := by
  refine G_iload_n dX7_kicks_69 rfl ?_
  refine G_iload dX7_kicks_70 rfl ?_
  refine G_iadd dX7_kicks_72 ?_
  refine G_istore_n dX7_kicks_73 (by decide) rfl ?_
  refine G_iinc dX7_kicks_74 (by decide) rfl rfl ?_
  refine G_goto dX7_kicks_77 (tgt := 8) (by decide) ?_
  exact km
theorem k_X7_order_0 {Γ : Gm} {Ret : Option Value → Wd → Prop} {a1 z1 : Int} {p0 : Nat} {w : Wd} (c1 : SpP Γ m_X7_in [vI a1, vI (-1), vI 3] w z1) (kt : z1 ≠ 0 → G Γ m_X7_order Ret 0 0 11 [some (vR p0), some (vI a1)] [] w) (kf : z1 = 0 → G Γ m_X7_order Ret 0 0 9 [some (vR p0), some (vI a1)] [] w) (h2 : sm z1 := by omega) : G Γ m_X7_order Ret 0 0 0 [some (vR p0), some (vI a1)] [] w := by
  refine G_iload_n dX7_order_0 rfl ?_
  refine G_const dX7_order_1 ?_
  refine G_const dX7_order_2 ?_
  refine G_SP (as := [vI a1, vI (-1), vI 3]) (st := []) n0_X7_in dX7_order_3 ml_RX7_63 mc_X7_in rfl ⟨by decide, ⟨Nat.le_of_ble_eq_true rfl, Nat.le_of_ble_eq_true rfl⟩, Nat.le_of_ble_eq_true rfl⟩ c1 ?_
  exact G_if_ne dX7_order_6 (by decide) h2 kt kf
theorem k_X7_order_11 {Γ : Gm} {Ret : Option Value → Wd → Prop} {a1 : Int} {p0 : Nat} {w : Wd} {Q : Wd → Prop} (c2 : SpV Γ m_X7_layOrder [vR p0] w Q) (kq : ∀ u : Wd, Q u → G Γ m_X7_order Ret 0 0 15 [some (vR p0), some (vI a1)] [] u) (h1 : sh w p0 = some (.inr 7) := by assumption) : G Γ m_X7_order Ret 0 0 11 [some (vR p0), some (vI a1)] [] w := by
  refine G_aload_n dX7_order_11 rfl ?_
  exact G_VV (as := []) (st := []) n0_X7_layOrder dX7_order_12 ml_RX7_211 mc_X7_layOrder rfl ⟨by decide, ⟨Nat.le_of_ble_eq_true rfl, Nat.le_of_ble_eq_true rfl⟩, Nat.le_of_ble_eq_true rfl⟩ h1 ⟨_, _, rfl⟩ c2 (fun u hq => kq u hq)
theorem k_X7_order_9 {Γ : Gm} {Ret : Option Value → Wd → Prop} {o0 o1 : Option Value} {w : Wd} (kr : Ret (some (vI (-1))) w) : G Γ m_X7_order Ret 0 0 9 [o0, o1] [] w := by
  refine G_const dX7_order_9 ?_
  exact G_reti dX7_order_10 trivial ⟨rfl, Nat.le_of_ble_eq_true rfl⟩ kr
theorem k_X7_order_15 {Γ : Gm} {Ret : Option Value → Wd → Prop} {a1 : Int} {p0 : Nat} {w : Wd} (kt : 0 ≤ (wI w p0 25) → G Γ m_X7_order Ret 0 0 25 [some (vR p0), some (vI a1)] [] w) (kf : ¬ (0 ≤ (wI w p0 25)) → G Γ m_X7_order Ret 0 0 22 [some (vR p0), some (vI a1)] [] w) (h1 : sh w p0 = some (.inr 7) := by assumption) (h2 : sm (wI w p0 25) := by omega) : G Γ m_X7_order Ret 0 0 15 [some (vR p0), some (vI a1)] [] w := by
  refine G_aload_n dX7_order_15 rfl ?_
  refine G_getI dX7_order_16 fl_RX7_183 h1 rfl ?_
  exact G_if_ge dX7_order_19 (by decide) h2 kt kf
theorem k_X7_order_25 {Γ : Gm} {Ret : Option Value → Wd → Prop} {a1 : Int} {p0 : Nat} {w : Wd} (kt : a1 ≠ (-1) → G Γ m_X7_order Ret 0 0 37 [some (vR p0), some (vI a1)] [] w) (kf : a1 = (-1) → G Γ m_X7_order Ret 0 0 30 [some (vR p0), some (vI a1)] [] w) (h1 : sm a1 := by omega) : G Γ m_X7_order Ret 0 0 25 [some (vR p0), some (vI a1)] [] w := by
  refine G_iload_n dX7_order_25 rfl ?_
  refine G_const dX7_order_26 ?_
  exact G_icmp_ne dX7_order_27 (by decide) h1 (by decide) kt kf
theorem k_X7_order_22 {Γ : Gm} {Ret : Option Value → Wd → Prop} {o0 o1 : Option Value} {w : Wd} (kr : Ret (some (vI (-4))) w) : G Γ m_X7_order Ret 0 0 22 [o0, o1] [] w := by
  refine G_bipush dX7_order_22 (by decide +kernel) ?_
  exact G_reti dX7_order_24 trivial ⟨rfl, Nat.le_of_ble_eq_true rfl⟩ kr
theorem k_X7_order_37 {Γ : Gm} {Ret : Option Value → Wd → Prop} {a1 : Int} {p0 : Nat} {w : Wd} (kt : (wI w p0 24) ≤ a1 → G Γ m_X7_order Ret 0 0 54 [some (vR p0), some (vI a1)] [] w) (kf : ¬ ((wI w p0 24) ≤ a1) → G Γ m_X7_order Ret 0 0 45 [some (vR p0), some (vI a1)] [] w) (h1 : sh w p0 = some (.inr 7) := by assumption) (h2 : sm a1 := by omega) (h3 : sm (wI w p0 24) := by omega) : G Γ m_X7_order Ret 0 0 37 [some (vR p0), some (vI a1)] [] w := by
  refine G_iload_n dX7_order_37 rfl ?_
  refine G_aload_n dX7_order_38 rfl ?_
  refine G_getI dX7_order_39 fl_RX7_193 h1 rfl ?_
  exact G_icmp_ge dX7_order_42 (by decide) h2 h3 kt kf
theorem k_X7_order_30 {Γ : Gm} {Ret : Option Value → Wd → Prop} {p0 : Nat} {o1 : Option Value} {w : Wd} (kr : Ret (some (vI (wI w p0 25))) w) (h1 : sh w p0 = some (.inr 7) := by assumption) : G Γ m_X7_order Ret 0 0 30 [some (vR p0), o1] [] w := by
  refine G_aload_n dX7_order_30 rfl ?_
  refine G_getI dX7_order_31 fl_RX7_183 h1 rfl ?_
  refine G_goto dX7_order_34 (tgt := 56) (by decide) ?_
  exact G_reti dX7_order_56 trivial ⟨rfl, Nat.le_of_ble_eq_true rfl⟩ kr
theorem k_X7_order_54 {Γ : Gm} {Ret : Option Value → Wd → Prop} {o0 o1 : Option Value} {w : Wd} (kr : Ret (some (vI (-4))) w) : G Γ m_X7_order Ret 0 0 54 [o0, o1] [] w := by
  refine G_bipush dX7_order_54 (by decide +kernel) ?_
  exact G_reti dX7_order_56 trivial ⟨rfl, Nat.le_of_ble_eq_true rfl⟩ kr
theorem k_X7_order_45 {Γ : Gm} {Ret : Option Value → Wd → Prop} {a1 : Int} {p0 q1 n2 : Nat} {w : Wd} (kr : Ret (some (vI (wI w q1 a1))) w) (h1 : sh w p0 = some (.inr 7) := by assumption) (h2 : wR w p0 23 = vR q1 := by assumption) (h3 : sh w q1 = some (.inl (0, n2)) := by assumption) (h4 : (0 : Int) ≤ a1 ∧ a1 < (n2 : Int) := by omega) (h5 : n2 < 2147483648 := by omega) : G Γ m_X7_order Ret 0 0 45 [some (vR p0), some (vI a1)] [] w := by
  refine G_aload_n dX7_order_45 rfl ?_
  refine G_getR dX7_order_46 fl_RX7_49 h1 rfl h2 ?_
  refine G_iload_n dX7_order_49 rfl ?_
  refine G_iald dX7_order_50 h3 h4 h5 ?_
  refine G_goto dX7_order_51 (tgt := 56) (by decide) ?_
  exact G_reti dX7_order_56 trivial ⟨rfl, Nat.le_of_ble_eq_true rfl⟩ kr
theorem k_X7_kickFor_0 {Γ : Gm} {Ret : Option Value → Wd → Prop} {a1 a2 z1 : Int} {p0 : Nat} {w : Wd} (c1 : SpP Γ m_X7_in [vI a1, vI 0, vI 3] w z1) (kt : z1 = 0 → G Γ m_X7_kickFor Ret 0 0 19 [some (vR p0), some (vI a1), some (vI a2)] [] w) (kf : ¬ (z1 = 0) → G Γ m_X7_kickFor Ret 0 0 9 [some (vR p0), some (vI a1), some (vI a2)] [] w) (h2 : sm z1 := by omega) : G Γ m_X7_kickFor Ret 0 0 0 [some (vR p0), some (vI a1), some (vI a2)] [] w := by
  refine G_iload_n dX7_kickFor_0 rfl ?_
  refine G_const dX7_kickFor_1 ?_
  refine G_const dX7_kickFor_2 ?_
  refine G_SP (as := [vI a1, vI 0, vI 3]) (st := []) n0_X7_in dX7_kickFor_3 ml_RX7_63 mc_X7_in rfl ⟨by decide, ⟨Nat.le_of_ble_eq_true rfl, Nat.le_of_ble_eq_true rfl⟩, Nat.le_of_ble_eq_true rfl⟩ c1 ?_
  exact G_if_eq dX7_kickFor_6 (by decide) h2 kt kf
theorem k_X7_kickFor_19 {Γ : Gm} {Ret : Option Value → Wd → Prop} {o0 o1 o2 : Option Value} {w : Wd} (kr : Ret (some (vI (-1))) w) : G Γ m_X7_kickFor Ret 0 0 19 [o0, o1, o2] [] w := by
  refine G_const dX7_kickFor_19 ?_
  exact G_reti dX7_kickFor_20 trivial ⟨rfl, Nat.le_of_ble_eq_true rfl⟩ kr
theorem k_X7_kickFor_9 {Γ : Gm} {Ret : Option Value → Wd → Prop} {a1 a2 z1 : Int} {p0 : Nat} {w : Wd} (c1 : SpP Γ m_X7_in [vI a2, vI 0, vI 30] w z1) (kt : z1 ≠ 0 → G Γ m_X7_kickFor Ret 0 0 21 [some (vR p0), some (vI a1), some (vI a2)] [] w) (kf : z1 = 0 → G Γ m_X7_kickFor Ret 0 0 19 [some (vR p0), some (vI a1), some (vI a2)] [] w) (h2 : sm z1 := by omega) : G Γ m_X7_kickFor Ret 0 0 9 [some (vR p0), some (vI a1), some (vI a2)] [] w := by
  refine G_iload_n dX7_kickFor_9 rfl ?_
  refine G_const dX7_kickFor_10 ?_
  refine G_bipush dX7_kickFor_11 (by decide +kernel) ?_
  refine G_SP (as := [vI a2, vI 0, vI 30]) (st := []) n0_X7_in dX7_kickFor_13 ml_RX7_63 mc_X7_in rfl ⟨by decide, ⟨Nat.le_of_ble_eq_true rfl, Nat.le_of_ble_eq_true rfl⟩, Nat.le_of_ble_eq_true rfl⟩ c1 ?_
  exact G_if_ne dX7_kickFor_16 (by decide) h2 kt kf
theorem k_X7_kickFor_21 {Γ : Gm} {Ret : Option Value → Wd → Prop} {a1 a2 z2 : Int} {p0 q1 : Nat} {w : Wd} (c3 : SpP Γ m_X7_isFree [vR q1, vI a1] w z2) (kt : z2 = 0 → G Γ m_X7_kickFor Ret 0 0 45 [some (vR p0), some (vI a1), some (vI a2)] [] w) (kf : ¬ (z2 = 0) → G Γ m_X7_kickFor Ret 0 0 32 [some (vR p0), some (vI a1), some (vI a2)] [] w) (h1 : sh w p0 = some (.inr 7) := by assumption) (h2 : wR w p0 14 = vR q1 := by assumption) (h4 : sm z2 := by omega) : G Γ m_X7_kickFor Ret 0 0 21 [some (vR p0), some (vI a1), some (vI a2)] [] w := by
  refine G_aload_n dX7_kickFor_21 rfl ?_
  refine G_getR dX7_kickFor_22 fl_RX7_31 h1 rfl h2 ?_
  refine G_iload_n dX7_kickFor_25 rfl ?_
  refine G_SP (as := [vR q1, vI a1]) (st := []) n0_X7_isFree dX7_kickFor_26 ml_RX7_165 mc_X7_isFree rfl ⟨by decide, ⟨Nat.le_of_ble_eq_true rfl, Nat.le_of_ble_eq_true rfl⟩, Nat.le_of_ble_eq_true rfl⟩ c3 ?_
  exact G_if_eq dX7_kickFor_29 (by decide) h4 kt kf
theorem k_X7_kickFor_45 {Γ : Gm} {Ret : Option Value → Wd → Prop} {o0 o1 o2 : Option Value} {w : Wd} (kr : Ret (some (vI (-4))) w) : G Γ m_X7_kickFor Ret 0 0 45 [o0, o1, o2] [] w := by
  refine G_bipush dX7_kickFor_45 (by decide +kernel) ?_
  exact G_reti dX7_kickFor_47 trivial ⟨rfl, Nat.le_of_ble_eq_true rfl⟩ kr
theorem k_X7_kickFor_32 {Γ : Gm} {Ret : Option Value → Wd → Prop} {a1 a2 z2 : Int} {p0 q1 : Nat} {w : Wd} (c3 : SpP Γ m_X7_leastKick [vR p0, vR q1, vI a1, vI a2] w z2) (kr : Ret (some (vI z2)) w) (h1 : sh w p0 = some (.inr 7) := by assumption) (h2 : wR w p0 14 = vR q1 := by assumption) : G Γ m_X7_kickFor Ret 0 0 32 [some (vR p0), some (vI a1), some (vI a2)] [] w := by
  refine G_aload_n dX7_kickFor_32 rfl ?_
  refine G_aload_n dX7_kickFor_33 rfl ?_
  refine G_getR dX7_kickFor_34 fl_RX7_31 h1 rfl h2 ?_
  refine G_iload_n dX7_kickFor_37 rfl ?_
  refine G_iload_n dX7_kickFor_38 rfl ?_
  refine G_VP (as := [vR q1, vI a1, vI a2]) (st := []) n0_X7_leastKick dX7_kickFor_39 ml_RX7_208 mc_X7_leastKick rfl ⟨by decide, ⟨Nat.le_of_ble_eq_true rfl, Nat.le_of_ble_eq_true rfl⟩, Nat.le_of_ble_eq_true rfl⟩ h1 ⟨_, _, rfl⟩ c3 ?_
  refine G_goto dX7_kickFor_42 (tgt := 47) (by decide) ?_
  exact G_reti dX7_kickFor_47 trivial ⟨rfl, Nat.le_of_ble_eq_true rfl⟩ kr
theorem k_X7_wavesAt_0 {Γ : Gm} {Ret : Option Value → Wd → Prop} {a1 : Int} {p0 : Nat} {w : Wd} {Q : Wd → Prop} (c2 : SpV Γ m_X7_begin [vR p0] w Q) (kq : ∀ u : Wd, Q u → G Γ m_X7_wavesAt Ret 0 0 4 [some (vR p0), some (vI a1), none] [] u) (h1 : sh w p0 = some (.inr 7) := by assumption) : G Γ m_X7_wavesAt Ret 0 0 0 [some (vR p0), some (vI a1), none] [] w := by
  refine G_aload_n dX7_wavesAt_0 rfl ?_
  exact G_VV (as := []) (st := []) n0_X7_begin dX7_wavesAt_1 ml_RX7_205 mc_X7_begin rfl ⟨by decide, ⟨Nat.le_of_ble_eq_true rfl, Nat.le_of_ble_eq_true rfl⟩, Nat.le_of_ble_eq_true rfl⟩ h1 ⟨_, _, rfl⟩ c2 (fun u hq => kq u hq)
theorem k_X7_wavesAt_4 {Γ : Gm} {Ret : Option Value → Wd → Prop} {a1 : Int} {p0 : Nat} {o2 : Option Value} {w : Wd} (km : G Γ m_X7_wavesAt Ret 0 0 6 [some (vR p0), some (vI a1), some (vI 0)] [] w) : G Γ m_X7_wavesAt Ret 0 0 4 [some (vR p0), some (vI a1), o2] [] w := by
  refine G_const dX7_wavesAt_4 ?_
  refine G_istore_n dX7_wavesAt_5 (by decide) rfl ?_
  exact km
theorem k_X7_wavesAt_6 {Γ : Gm} {Ret : Option Value → Wd → Prop} {a1 a2 : Int} {p0 : Nat} {w : Wd} (kt : 60 < a2 → G Γ m_X7_wavesAt Ret 0 0 41 [some (vR p0), some (vI a1), some (vI a2)] [] w) (kf : ¬ (60 < a2) → G Γ m_X7_wavesAt Ret 0 0 12 [some (vR p0), some (vI a1), some (vI a2)] [] w) (h1 : sm a2 := by omega) : G Γ m_X7_wavesAt Ret 0 0 6 [some (vR p0), some (vI a1), some (vI a2)] [] w := by
  refine G_iload_n dX7_wavesAt_6 rfl ?_
  refine G_bipush dX7_wavesAt_7 (by decide +kernel) ?_
  exact G_icmp_gt dX7_wavesAt_9 (by decide) h1 (by decide) kt kf
theorem k_X7_wavesAt_41 {Γ : Gm} {Ret : Option Value → Wd → Prop} {o0 o1 o2 : Option Value} {w : Wd} (kr : Ret (some (vI 99)) w) : G Γ m_X7_wavesAt Ret 0 0 41 [o0, o1, o2] [] w := by
  refine G_bipush dX7_wavesAt_41 (by decide +kernel) ?_
  exact G_reti dX7_wavesAt_43 trivial ⟨rfl, Nat.le_of_ble_eq_true rfl⟩ kr
theorem k_X7_wavesAt_12 {Γ : Gm} {Ret : Option Value → Wd → Prop} {a1 a2 : Int} {p0 q1 n2 : Nat} {w : Wd} (kt : 2 ≤ (wI w q1 (25 + a1)) → G Γ m_X7_wavesAt Ret 0 0 27 [some (vR p0), some (vI a1), some (vI a2)] [] w) (kf : ¬ (2 ≤ (wI w q1 (25 + a1))) → G Γ m_X7_wavesAt Ret 0 0 25 [some (vR p0), some (vI a1), some (vI a2)] [] w) (h1 : sh w p0 = some (.inr 7) := by assumption) (h2 : wR w p0 15 = vR q1 := by assumption) (h3 : sh w q1 = some (.inl (0, n2)) := by assumption) (h4 : (0 : Int) ≤ (25 + a1) ∧ (25 + a1) < (n2 : Int) := by omega) (h5 : n2 < 2147483648 := by omega) (h6 : sm (wI w q1 (25 + a1)) := by omega) : G Γ m_X7_wavesAt Ret 0 0 12 [some (vR p0), some (vI a1), some (vI a2)] [] w := by
  refine G_aload_n dX7_wavesAt_12 rfl ?_
  refine G_getR dX7_wavesAt_13 fl_RX7_34 h1 rfl h2 ?_
  refine G_bipush dX7_wavesAt_16 (by decide +kernel) ?_
  refine G_iload_n dX7_wavesAt_18 rfl ?_
  refine G_iadd dX7_wavesAt_19 ?_
  refine G_iald dX7_wavesAt_20 h3 h4 h5 ?_
  refine G_const dX7_wavesAt_21 ?_
  exact G_icmp_ge dX7_wavesAt_22 (by decide) h6 (by decide) kt kf
theorem k_X7_wavesAt_27 {Γ : Gm} {Ret : Option Value → Wd → Prop} {a1 a2 : Int} {p0 q1 : Nat} {w : Wd} {Q : Wd → Prop} (c3 : SpV Γ m_X7_passMonth [vR p0, vR q1] w Q) (kq : ∀ u : Wd, Q u → G Γ m_X7_wavesAt Ret 0 0 35 [some (vR p0), some (vI a1), some (vI a2)] [] u) (h1 : sh w p0 = some (.inr 7) := by assumption) (h2 : wR w p0 15 = vR q1 := by assumption) : G Γ m_X7_wavesAt Ret 0 0 27 [some (vR p0), some (vI a1), some (vI a2)] [] w := by
  refine G_aload_n dX7_wavesAt_27 rfl ?_
  refine G_aload_n dX7_wavesAt_28 rfl ?_
  refine G_getR dX7_wavesAt_29 fl_RX7_34 h1 rfl h2 ?_
  exact G_VV (as := [vR q1]) (st := []) n0_X7_passMonth dX7_wavesAt_32 ml_RX7_176 mc_X7_passMonth rfl ⟨by decide, ⟨Nat.le_of_ble_eq_true rfl, Nat.le_of_ble_eq_true rfl⟩, Nat.le_of_ble_eq_true rfl⟩ h1 ⟨_, _, rfl⟩ c3 (fun u hq => kq u hq)
theorem k_X7_wavesAt_25 {Γ : Gm} {Ret : Option Value → Wd → Prop} {a2 : Int} {o0 o1 : Option Value} {w : Wd} (kr : Ret (some (vI a2)) w) : G Γ m_X7_wavesAt Ret 0 0 25 [o0, o1, some (vI a2)] [] w := by
  refine G_iload_n dX7_wavesAt_25 rfl ?_
  exact G_reti dX7_wavesAt_26 trivial ⟨rfl, Nat.le_of_ble_eq_true rfl⟩ kr
theorem k_X7_wavesAt_35 {Γ : Gm} {Ret : Option Value → Wd → Prop} {a1 a2 : Int} {p0 : Nat} {w : Wd} (km : G Γ m_X7_wavesAt Ret 0 0 6 [some (vR p0), some (vI a1), some (vI (a2 + 1))] [] w) : G Γ m_X7_wavesAt Ret 0 0 35 [some (vR p0), some (vI a1), some (vI a2)] [] w := by
  refine G_iinc dX7_wavesAt_35 (by decide) rfl rfl ?_
  refine G_goto dX7_wavesAt_38 (tgt := 6) (by decide) ?_
  exact km
theorem k_X7_waves_0 {Γ : Gm} {Ret : Option Value → Wd → Prop} {p0 : Nat} {w : Wd} (km : G Γ m_X7_waves Ret 0 0 5 [some (vR p0), some (vI 99), some (vI 0), none] [] w) : G Γ m_X7_waves Ret 0 0 0 [some (vR p0), none, none, none] [] w := by
  refine G_bipush dX7_waves_0 (by decide +kernel) ?_
  refine G_istore_n dX7_waves_2 (by decide) rfl ?_
  refine G_const dX7_waves_3 ?_
  refine G_istore_n dX7_waves_4 (by decide) rfl ?_
  exact km
theorem k_X7_waves_5 {Γ : Gm} {Ret : Option Value → Wd → Prop} {a1 a2 : Int} {p0 : Nat} {o3 : Option Value} {w : Wd} (kt : 4 ≤ a2 → G Γ m_X7_waves Ret 0 0 49 [some (vR p0), some (vI a1), some (vI a2), o3] [] w) (kf : ¬ (4 ≤ a2) → G Γ m_X7_waves Ret 0 0 10 [some (vR p0), some (vI a1), some (vI a2), o3] [] w) (h1 : sm a2 := by omega) : G Γ m_X7_waves Ret 0 0 5 [some (vR p0), some (vI a1), some (vI a2), o3] [] w := by
  refine G_iload_n dX7_waves_5 rfl ?_
  refine G_const dX7_waves_6 ?_
  exact G_icmp_ge dX7_waves_7 (by decide) h1 (by decide) kt kf
theorem k_X7_waves_49 {Γ : Gm} {Ret : Option Value → Wd → Prop} {a1 : Int} {o0 o2 o3 : Option Value} {w : Wd} (kt : a1 ≠ 99 → G Γ m_X7_waves Ret 0 0 60 [o0, some (vI a1), o2, o3] [] w) (kf : a1 = 99 → G Γ m_X7_waves Ret 0 0 55 [o0, some (vI a1), o2, o3] [] w) (h1 : sm a1 := by omega) : G Γ m_X7_waves Ret 0 0 49 [o0, some (vI a1), o2, o3] [] w := by
  refine G_iload_n dX7_waves_49 rfl ?_
  refine G_bipush dX7_waves_50 (by decide +kernel) ?_
  exact G_icmp_ne dX7_waves_52 (by decide) h1 (by decide) kt kf
theorem k_X7_waves_10 {Γ : Gm} {Ret : Option Value → Wd → Prop} {a1 a2 z2 : Int} {p0 q1 : Nat} {o3 : Option Value} {w : Wd} (c3 : SpP Γ m_X7_isHooked [vR q1, vI a2] w z2) (kt : z2 = 0 → G Γ m_X7_waves Ret 0 0 29 [some (vR p0), some (vI a1), some (vI a2), o3] [] w) (kf : ¬ (z2 = 0) → G Γ m_X7_waves Ret 0 0 21 [some (vR p0), some (vI a1), some (vI a2), o3] [] w) (h1 : sh w p0 = some (.inr 7) := by assumption) (h2 : wR w p0 14 = vR q1 := by assumption) (h4 : sm z2 := by omega) : G Γ m_X7_waves Ret 0 0 10 [some (vR p0), some (vI a1), some (vI a2), o3] [] w := by
  refine G_aload_n dX7_waves_10 rfl ?_
  refine G_getR dX7_waves_11 fl_RX7_31 h1 rfl h2 ?_
  refine G_iload_n dX7_waves_14 rfl ?_
  refine G_SP (as := [vR q1, vI a2]) (st := []) n0_X7_isHooked dX7_waves_15 ml_RX7_130 mc_X7_isHooked rfl ⟨by decide, ⟨Nat.le_of_ble_eq_true rfl, Nat.le_of_ble_eq_true rfl⟩, Nat.le_of_ble_eq_true rfl⟩ c3 ?_
  exact G_if_eq dX7_waves_18 (by decide) h4 kt kf
theorem k_X7_waves_60 {Γ : Gm} {Ret : Option Value → Wd → Prop} {a1 : Int} {o0 o2 o3 : Option Value} {w : Wd} (kr : Ret (some (vI a1)) w) : G Γ m_X7_waves Ret 0 0 60 [o0, some (vI a1), o2, o3] [] w := by
  refine G_iload_n dX7_waves_60 rfl ?_
  exact G_reti dX7_waves_61 trivial ⟨rfl, Nat.le_of_ble_eq_true rfl⟩ kr
theorem k_X7_waves_55 {Γ : Gm} {Ret : Option Value → Wd → Prop} {o0 o1 o2 o3 : Option Value} {w : Wd} (kr : Ret (some (vI (-4))) w) : G Γ m_X7_waves Ret 0 0 55 [o0, o1, o2, o3] [] w := by
  refine G_bipush dX7_waves_55 (by decide +kernel) ?_
  refine G_goto dX7_waves_57 (tgt := 61) (by decide) ?_
  exact G_reti dX7_waves_61 trivial ⟨rfl, Nat.le_of_ble_eq_true rfl⟩ kr
theorem k_X7_waves_29 {Γ : Gm} {Ret : Option Value → Wd → Prop} {a1 a2 : Int} {p0 : Nat} {o3 : Option Value} {w : Wd} (kt : a1 ≤ 99 → G Γ m_X7_waves Ret 0 0 41 [some (vR p0), some (vI a1), some (vI a2), some (vI 99)] [] w) (kf : ¬ (a1 ≤ 99) → G Γ m_X7_waves Ret 0 0 37 [some (vR p0), some (vI a1), some (vI a2), some (vI 99)] [] w) (h1 : sm a1 := by omega) : G Γ m_X7_waves Ret 0 0 29 [some (vR p0), some (vI a1), some (vI a2), o3] [] w := by
  refine G_bipush dX7_waves_29 (by decide +kernel) ?_
  refine G_istore_n dX7_waves_31 (by decide) rfl ?_
  refine G_iload_n dX7_waves_32 rfl ?_
  refine G_iload_n dX7_waves_33 rfl ?_
  exact G_icmp_ge dX7_waves_34 (by decide) (by decide) h1 kt kf
theorem k_X7_waves_21 {Γ : Gm} {Ret : Option Value → Wd → Prop} {a1 a2 : Int} {p0 : Nat} {o3 : Option Value} {w : Wd} {Q : Int → Wd → Prop} (c2 : SpI Γ m_X7_wavesAt [vR p0, vI a2] w Q) (kq : ∀ (z : Int) (u : Wd), Q z u → G Γ m_X7_waves Ret 0 0 26 [some (vR p0), some (vI a1), some (vI a2), o3] [vI z] u) (h1 : sh w p0 = some (.inr 7) := by assumption) : G Γ m_X7_waves Ret 0 0 21 [some (vR p0), some (vI a1), some (vI a2), o3] [] w := by
  refine G_aload_n dX7_waves_21 rfl ?_
  refine G_iload_n dX7_waves_22 rfl ?_
  exact G_VI (as := [vI a2]) (st := []) n0_X7_wavesAt dX7_waves_23 ml_RX7_214 mc_X7_wavesAt rfl ⟨by decide, ⟨Nat.le_of_ble_eq_true rfl, Nat.le_of_ble_eq_true rfl⟩, Nat.le_of_ble_eq_true rfl⟩ h1 ⟨_, _, rfl⟩ c2 (fun z u hq => kq z u hq)
theorem k_X7_waves_41 {Γ : Gm} {Ret : Option Value → Wd → Prop} {a1 a2 : Int} {p0 : Nat} {o3 : Option Value} {w : Wd} (km : G Γ m_X7_waves Ret 0 0 5 [some (vR p0), some (vI a1), some (vI (a2 + 1)), o3] [] w) : G Γ m_X7_waves Ret 0 0 41 [some (vR p0), some (vI a1), some (vI a2), o3] [] w := by
  refine G_iload_n dX7_waves_41 rfl ?_
  refine G_istore_n dX7_waves_42 (by decide) rfl ?_
  refine G_iinc dX7_waves_43 (by decide) rfl rfl ?_
  refine G_goto dX7_waves_46 (tgt := 5) (by decide) ?_
  exact km
theorem k_X7_waves_37 {Γ : Gm} {Ret : Option Value → Wd → Prop} {a2 a3 : Int} {p0 : Nat} {o1 : Option Value} {w : Wd} (km : G Γ m_X7_waves Ret 0 0 5 [some (vR p0), some (vI a3), some (vI (a2 + 1)), some (vI a3)] [] w) : G Γ m_X7_waves Ret 0 0 37 [some (vR p0), o1, some (vI a2), some (vI a3)] [] w := by
  refine G_iload_n dX7_waves_37 rfl ?_
  refine G_goto dX7_waves_38 (tgt := 42) (by decide) ?_
  refine G_istore_n dX7_waves_42 (by decide) rfl ?_
  refine G_iinc dX7_waves_43 (by decide) rfl rfl ?_
  refine G_goto dX7_waves_46 (tgt := 5) (by decide) ?_
  exact km
theorem k_X7_waves_26 {Γ : Gm} {Ret : Option Value → Wd → Prop} {a1 a2 s0 : Int} {p0 : Nat} {o3 : Option Value} {w : Wd} (kt : a1 ≤ s0 → G Γ m_X7_waves Ret 0 0 41 [some (vR p0), some (vI a1), some (vI a2), some (vI s0)] [] w) (kf : ¬ (a1 ≤ s0) → G Γ m_X7_waves Ret 0 0 37 [some (vR p0), some (vI a1), some (vI a2), some (vI s0)] [] w) (h1 : sm s0 := by omega) (h2 : sm a1 := by omega) : G Γ m_X7_waves Ret 0 0 26 [some (vR p0), some (vI a1), some (vI a2), o3] [vI s0] w := by
  refine G_goto dX7_waves_26 (tgt := 31) (by decide) ?_
  refine G_istore_n dX7_waves_31 (by decide) rfl ?_
  refine G_iload_n dX7_waves_32 rfl ?_
  refine G_iload_n dX7_waves_33 rfl ?_
  exact G_icmp_ge dX7_waves_34 (by decide) h1 h2 kt kf
theorem k_X7_longest_0 {Γ : Gm} {Ret : Option Value → Wd → Prop} {p0 : Nat} {w : Wd} (km : G Γ m_X7_longest Ret 0 0 7 [some (vR p0), some (vI (-4)), some (vI (-1)), some (vI 0), none] [] w) : G Γ m_X7_longest Ret 0 0 0 [some (vR p0), none, none, none, none] [] w := by
  refine G_bipush dX7_longest_0 (by decide +kernel) ?_
  refine G_istore_n dX7_longest_2 (by decide) rfl ?_
  refine G_const dX7_longest_3 ?_
  refine G_istore_n dX7_longest_4 (by decide) rfl ?_
  refine G_const dX7_longest_5 ?_
  refine G_istore_n dX7_longest_6 (by decide) rfl ?_
  exact km
theorem k_X7_longest_7 {Γ : Gm} {Ret : Option Value → Wd → Prop} {a1 a2 a3 : Int} {p0 : Nat} {o4 : Option Value} {w : Wd} (kt : 4 ≤ a3 → G Γ m_X7_longest Ret 0 0 65 [some (vR p0), some (vI a1), some (vI a2), some (vI a3), o4] [] w) (kf : ¬ (4 ≤ a3) → G Γ m_X7_longest Ret 0 0 12 [some (vR p0), some (vI a1), some (vI a2), some (vI a3), o4] [] w) (h1 : sm a3 := by omega) : G Γ m_X7_longest Ret 0 0 7 [some (vR p0), some (vI a1), some (vI a2), some (vI a3), o4] [] w := by
  refine G_iload_n dX7_longest_7 rfl ?_
  refine G_const dX7_longest_8 ?_
  exact G_icmp_ge dX7_longest_9 (by decide) h1 (by decide) kt kf
theorem k_X7_longest_65 {Γ : Gm} {Ret : Option Value → Wd → Prop} {a1 : Int} {o0 o2 o3 o4 : Option Value} {w : Wd} (kr : Ret (some (vI a1)) w) : G Γ m_X7_longest Ret 0 0 65 [o0, some (vI a1), o2, o3, o4] [] w := by
  refine G_iload_n dX7_longest_65 rfl ?_
  exact G_reti dX7_longest_66 trivial ⟨rfl, Nat.le_of_ble_eq_true rfl⟩ kr
theorem k_X7_longest_12 {Γ : Gm} {Ret : Option Value → Wd → Prop} {a1 a2 a3 z2 : Int} {p0 q1 : Nat} {o4 : Option Value} {w : Wd} (c3 : SpP Γ m_X7_isHooked [vR q1, vI a3] w z2) (kt : z2 = 0 → G Γ m_X7_longest Ret 0 0 31 [some (vR p0), some (vI a1), some (vI a2), some (vI a3), o4] [] w) (kf : ¬ (z2 = 0) → G Γ m_X7_longest Ret 0 0 23 [some (vR p0), some (vI a1), some (vI a2), some (vI a3), o4] [] w) (h1 : sh w p0 = some (.inr 7) := by assumption) (h2 : wR w p0 14 = vR q1 := by assumption) (h4 : sm z2 := by omega) : G Γ m_X7_longest Ret 0 0 12 [some (vR p0), some (vI a1), some (vI a2), some (vI a3), o4] [] w := by
  refine G_aload_n dX7_longest_12 rfl ?_
  refine G_getR dX7_longest_13 fl_RX7_31 h1 rfl h2 ?_
  refine G_iload_n dX7_longest_16 rfl ?_
  refine G_SP (as := [vR q1, vI a3]) (st := []) n0_X7_isHooked dX7_longest_17 ml_RX7_130 mc_X7_isHooked rfl ⟨by decide, ⟨Nat.le_of_ble_eq_true rfl, Nat.le_of_ble_eq_true rfl⟩, Nat.le_of_ble_eq_true rfl⟩ c3 ?_
  exact G_if_eq dX7_longest_20 (by decide) h4 kt kf
theorem k_X7_longest_31 {Γ : Gm} {Ret : Option Value → Wd → Prop} {a1 a2 a3 : Int} {p0 : Nat} {o4 : Option Value} {w : Wd} (kt : (-1) ≤ a2 → G Γ m_X7_longest Ret 0 0 44 [some (vR p0), some (vI a1), some (vI a2), some (vI a3), some (vI (-1))] [] w) (kf : ¬ ((-1) ≤ a2) → G Γ m_X7_longest Ret 0 0 40 [some (vR p0), some (vI a1), some (vI a2), some (vI a3), some (vI (-1))] [] w) (h1 : sm a2 := by omega) : G Γ m_X7_longest Ret 0 0 31 [some (vR p0), some (vI a1), some (vI a2), some (vI a3), o4] [] w := by
  refine G_const dX7_longest_31 ?_
  refine G_istore dX7_longest_32 (by decide) rfl ?_
  refine G_iload dX7_longest_34 rfl ?_
  refine G_iload_n dX7_longest_36 rfl ?_
  exact G_icmp_le dX7_longest_37 (by decide) (by decide) h1 kt kf
theorem k_X7_longest_23 {Γ : Gm} {Ret : Option Value → Wd → Prop} {a1 a2 a3 : Int} {p0 : Nat} {o4 : Option Value} {w : Wd} {Q : Int → Wd → Prop} (c2 : SpI Γ m_X7_wavesAt [vR p0, vI a3] w Q) (kq : ∀ (z : Int) (u : Wd), Q z u → G Γ m_X7_longest Ret 0 0 28 [some (vR p0), some (vI a1), some (vI a2), some (vI a3), o4] [vI z] u) (h1 : sh w p0 = some (.inr 7) := by assumption) : G Γ m_X7_longest Ret 0 0 23 [some (vR p0), some (vI a1), some (vI a2), some (vI a3), o4] [] w := by
  refine G_aload_n dX7_longest_23 rfl ?_
  refine G_iload_n dX7_longest_24 rfl ?_
  exact G_VI (as := [vI a3]) (st := []) n0_X7_wavesAt dX7_longest_25 ml_RX7_214 mc_X7_wavesAt rfl ⟨by decide, ⟨Nat.le_of_ble_eq_true rfl, Nat.le_of_ble_eq_true rfl⟩, Nat.le_of_ble_eq_true rfl⟩ h1 ⟨_, _, rfl⟩ c2 (fun z u hq => kq z u hq)
theorem k_X7_longest_44 {Γ : Gm} {Ret : Option Value → Wd → Prop} {a1 a2 a3 a4 : Int} {p0 : Nat} {w : Wd} (kt : a4 ≤ a2 → G Γ m_X7_longest Ret 0 0 57 [some (vR p0), some (vI a1), some (vI a2), some (vI a3), some (vI a4)] [] w) (kf : ¬ (a4 ≤ a2) → G Γ m_X7_longest Ret 0 0 52 [some (vR p0), some (vI a1), some (vI a2), some (vI a3), some (vI a4)] [] w) (h1 : sm a4 := by omega) (h2 : sm a2 := by omega) : G Γ m_X7_longest Ret 0 0 44 [some (vR p0), some (vI a1), some (vI a2), some (vI a3), some (vI a4)] [] w := by
  refine G_iload_n dX7_longest_44 rfl ?_
  refine G_istore_n dX7_longest_45 (by decide) rfl ?_
  refine G_iload dX7_longest_46 rfl ?_
  refine G_iload_n dX7_longest_48 rfl ?_
  exact G_icmp_le dX7_longest_49 (by decide) h1 h2 kt kf
theorem k_X7_longest_40 {Γ : Gm} {Ret : Option Value → Wd → Prop} {a2 a3 a4 : Int} {p0 : Nat} {o1 : Option Value} {w : Wd} (kt : a4 ≤ a2 → G Γ m_X7_longest Ret 0 0 57 [some (vR p0), some (vI a3), some (vI a2), some (vI a3), some (vI a4)] [] w) (kf : ¬ (a4 ≤ a2) → G Γ m_X7_longest Ret 0 0 52 [some (vR p0), some (vI a3), some (vI a2), some (vI a3), some (vI a4)] [] w) (h1 : sm a4 := by omega) (h2 : sm a2 := by omega) : G Γ m_X7_longest Ret 0 0 40 [some (vR p0), o1, some (vI a2), some (vI a3), some (vI a4)] [] w := by
  refine G_iload_n dX7_longest_40 rfl ?_
  refine G_goto dX7_longest_41 (tgt := 45) (by decide) ?_
  refine G_istore_n dX7_longest_45 (by decide) rfl ?_
  refine G_iload dX7_longest_46 rfl ?_
  refine G_iload_n dX7_longest_48 rfl ?_
  exact G_icmp_le dX7_longest_49 (by decide) h1 h2 kt kf
theorem k_X7_longest_28 {Γ : Gm} {Ret : Option Value → Wd → Prop} {a1 a2 a3 s0 : Int} {p0 : Nat} {o4 : Option Value} {w : Wd} (kt : s0 ≤ a2 → G Γ m_X7_longest Ret 0 0 44 [some (vR p0), some (vI a1), some (vI a2), some (vI a3), some (vI s0)] [] w) (kf : ¬ (s0 ≤ a2) → G Γ m_X7_longest Ret 0 0 40 [some (vR p0), some (vI a1), some (vI a2), some (vI a3), some (vI s0)] [] w) (h1 : sm s0 := by omega) (h2 : sm a2 := by omega) : G Γ m_X7_longest Ret 0 0 28 [some (vR p0), some (vI a1), some (vI a2), some (vI a3), o4] [vI s0] w := by
  refine G_goto dX7_longest_28 (tgt := 32) (by decide) ?_
  refine G_istore dX7_longest_32 (by decide) rfl ?_
  refine G_iload dX7_longest_34 rfl ?_
  refine G_iload_n dX7_longest_36 rfl ?_
  exact G_icmp_le dX7_longest_37 (by decide) h1 h2 kt kf
theorem k_X7_longest_57 {Γ : Gm} {Ret : Option Value → Wd → Prop} {a1 a2 a3 : Int} {p0 : Nat} {o4 : Option Value} {w : Wd} (km : G Γ m_X7_longest Ret 0 0 7 [some (vR p0), some (vI a1), some (vI a2), some (vI (a3 + 1)), o4] [] w) : G Γ m_X7_longest Ret 0 0 57 [some (vR p0), some (vI a1), some (vI a2), some (vI a3), o4] [] w := by
  refine G_iload_n dX7_longest_57 rfl ?_
  refine G_istore_n dX7_longest_58 (by decide) rfl ?_
  refine G_iinc dX7_longest_59 (by decide) rfl rfl ?_
  refine G_goto dX7_longest_62 (tgt := 7) (by decide) ?_
  exact km
theorem k_X7_longest_52 {Γ : Gm} {Ret : Option Value → Wd → Prop} {a1 a3 a4 : Int} {p0 : Nat} {o2 : Option Value} {w : Wd} (km : G Γ m_X7_longest Ret 0 0 7 [some (vR p0), some (vI a1), some (vI a4), some (vI (a3 + 1)), some (vI a4)] [] w) : G Γ m_X7_longest Ret 0 0 52 [some (vR p0), some (vI a1), o2, some (vI a3), some (vI a4)] [] w := by
  refine G_iload dX7_longest_52 rfl ?_
  refine G_goto dX7_longest_54 (tgt := 58) (by decide) ?_
  refine G_istore_n dX7_longest_58 (by decide) rfl ?_
  refine G_iinc dX7_longest_59 (by decide) rfl rfl ?_
  refine G_goto dX7_longest_62 (tgt := 7) (by decide) ?_
  exact km
theorem k_X7_seen_0 {Γ : Gm} {Ret : Option Value → Wd → Prop} {a1 a2 z1 : Int} {p0 : Nat} {w : Wd} (c1 : SpP Γ m_X7_in [vI a1, vI 0, vI 20] w z1) (kt : z1 = 0 → G Γ m_X7_seen Ret 0 0 20 [some (vR p0), some (vI a1), some (vI a2)] [] w) (kf : ¬ (z1 = 0) → G Γ m_X7_seen Ret 0 0 10 [some (vR p0), some (vI a1), some (vI a2)] [] w) (h2 : sm z1 := by omega) : G Γ m_X7_seen Ret 0 0 0 [some (vR p0), some (vI a1), some (vI a2)] [] w := by
  refine G_iload_n dX7_seen_0 rfl ?_
  refine G_const dX7_seen_1 ?_
  refine G_bipush dX7_seen_2 (by decide +kernel) ?_
  refine G_SP (as := [vI a1, vI 0, vI 20]) (st := []) n0_X7_in dX7_seen_4 ml_RX7_63 mc_X7_in rfl ⟨by decide, ⟨Nat.le_of_ble_eq_true rfl, Nat.le_of_ble_eq_true rfl⟩, Nat.le_of_ble_eq_true rfl⟩ c1 ?_
  exact G_if_eq dX7_seen_7 (by decide) h2 kt kf
theorem k_X7_seen_20 {Γ : Gm} {Ret : Option Value → Wd → Prop} {o0 o1 o2 : Option Value} {w : Wd} (kr : Ret (some (vI (-1))) w) : G Γ m_X7_seen Ret 0 0 20 [o0, o1, o2] [] w := by
  refine G_const dX7_seen_20 ?_
  exact G_reti dX7_seen_21 trivial ⟨rfl, Nat.le_of_ble_eq_true rfl⟩ kr
theorem k_X7_seen_10 {Γ : Gm} {Ret : Option Value → Wd → Prop} {a1 a2 z1 : Int} {p0 : Nat} {w : Wd} (c1 : SpP Γ m_X7_in [vI a2, vI 0, vI 40] w z1) (kt : z1 ≠ 0 → G Γ m_X7_seen Ret 0 0 22 [some (vR p0), some (vI a1), some (vI a2)] [] w) (kf : z1 = 0 → G Γ m_X7_seen Ret 0 0 20 [some (vR p0), some (vI a1), some (vI a2)] [] w) (h2 : sm z1 := by omega) : G Γ m_X7_seen Ret 0 0 10 [some (vR p0), some (vI a1), some (vI a2)] [] w := by
  refine G_iload_n dX7_seen_10 rfl ?_
  refine G_const dX7_seen_11 ?_
  refine G_bipush dX7_seen_12 (by decide +kernel) ?_
  refine G_SP (as := [vI a2, vI 0, vI 40]) (st := []) n0_X7_in dX7_seen_14 ml_RX7_63 mc_X7_in rfl ⟨by decide, ⟨Nat.le_of_ble_eq_true rfl, Nat.le_of_ble_eq_true rfl⟩, Nat.le_of_ble_eq_true rfl⟩ c1 ?_
  exact G_if_ne dX7_seen_17 (by decide) h2 kt kf
theorem k_X7_seen_22 {Γ : Gm} {Ret : Option Value → Wd → Prop} {a1 a2 : Int} {p0 : Nat} {w : Wd} (kt : (wI w p0 20) ≠ 6 → G Γ m_X7_seen Ret 0 0 34 [some (vR p0), some (vI a1), some (vI a2)] [] w) (kf : (wI w p0 20) = 6 → G Γ m_X7_seen Ret 0 0 31 [some (vR p0), some (vI a1), some (vI a2)] [] w) (h1 : sh w p0 = some (.inr 7) := by assumption) (h2 : sm (wI w p0 20) := by omega) : G Γ m_X7_seen Ret 0 0 22 [some (vR p0), some (vI a1), some (vI a2)] [] w := by
  refine G_aload_n dX7_seen_22 rfl ?_
  refine G_getI dX7_seen_23 fl_RX7_114 h1 rfl ?_
  refine G_bipush dX7_seen_26 (by decide +kernel) ?_
  exact G_icmp_ne dX7_seen_28 (by decide) h2 (by decide) kt kf
theorem k_X7_seen_34 {Γ : Gm} {Ret : Option Value → Wd → Prop} {a1 a2 : Int} {p0 q1 n2 : Nat} {w : Wd} (kr : Ret (some (vI ((wI (stI (stI w q1 (2 * (wI w p0 20)) a1) q1 ((2 * (wI (stI w q1 (2 * (wI w p0 20)) a1) p0 20)) + 1) a2) p0 20) + 1))) (stI (stI (stI w q1 (2 * (wI w p0 20)) a1) q1 ((2 * (wI (stI w q1 (2 * (wI w p0 20)) a1) p0 20)) + 1) a2) p0 20 ((wI (stI (stI w q1 (2 * (wI w p0 20)) a1) q1 ((2 * (wI (stI w q1 (2 * (wI w p0 20)) a1) p0 20)) + 1) a2) p0 20) + 1))) (h1 : sh w p0 = some (.inr 7) := by assumption) (h2 : wR w p0 21 = vR q1 := by assumption) (h3 : sh w q1 = some (.inl (0, n2)) := by assumption) (h4 : (0 : Int) ≤ (2 * (wI w p0 20)) ∧ (2 * (wI w p0 20)) < (n2 : Int) := by omega) (h5 : n2 < 2147483648 := by omega) (h6 : (0 : Int) ≤ ((2 * (wI (stI w q1 (2 * (wI w p0 20)) a1) p0 20)) + 1) ∧ ((2 * (wI (stI w q1 (2 * (wI w p0 20)) a1) p0 20)) + 1) < (n2 : Int) := by omega) : G Γ m_X7_seen Ret 0 0 34 [some (vR p0), some (vI a1), some (vI a2)] [] w := by
  refine G_aload_n dX7_seen_34 rfl ?_
  refine G_getR dX7_seen_35 fl_RX7_43 h1 rfl h2 ?_
  refine G_const dX7_seen_38 ?_
  refine G_aload_n dX7_seen_39 rfl ?_
  refine G_getI dX7_seen_40 fl_RX7_114 h1 rfl ?_
  refine G_imul dX7_seen_43 ?_
  refine G_iload_n dX7_seen_44 rfl ?_
  refine G_iast dX7_seen_45 h3 h4 h5 ?_
  refine G_aload_n dX7_seen_46 rfl ?_
  refine G_getR dX7_seen_47 fl_RX7_43 h1 rfl h2 ?_
  refine G_const dX7_seen_50 ?_
  refine G_aload_n dX7_seen_51 rfl ?_
  refine G_getI dX7_seen_52 fl_RX7_114 h1 rfl ?_
  refine G_imul dX7_seen_55 ?_
  refine G_const dX7_seen_56 ?_
  refine G_iadd dX7_seen_57 ?_
  refine G_iload_n dX7_seen_58 rfl ?_
  refine G_iast dX7_seen_59 h3 h6 h5 ?_
  refine G_aload_n dX7_seen_60 rfl ?_
  refine G_dup dX7_seen_61 rfl ?_
  refine G_getI dX7_seen_62 fl_RX7_114 h1 rfl ?_
  refine G_const dX7_seen_65 ?_
  refine G_iadd dX7_seen_66 ?_
  refine G_putI dX7_seen_67 fl_RX7_114 h1 rfl ?_
  refine G_aload_n dX7_seen_70 rfl ?_
  refine G_getI dX7_seen_71 fl_RX7_114 h1 rfl ?_
  rw [wI_hit]
  exact G_reti dX7_seen_74 trivial ⟨rfl, Nat.le_of_ble_eq_true rfl⟩ kr
theorem k_X7_seen_31 {Γ : Gm} {Ret : Option Value → Wd → Prop} {o0 o1 o2 : Option Value} {w : Wd} (kr : Ret (some (vI (-3))) w) : G Γ m_X7_seen Ret 0 0 31 [o0, o1, o2] [] w := by
  refine G_bipush dX7_seen_31 (by decide +kernel) ?_
  exact G_reti dX7_seen_33 trivial ⟨rfl, Nat.le_of_ble_eq_true rfl⟩ kr
theorem k_X7_forget_0 {Γ : Gm} {Ret : Option Value → Wd → Prop} {p0 : Nat} {w : Wd} (kr : Ret (some (vI (wI w p0 20))) (stI w p0 20 0)) (h1 : sh w p0 = some (.inr 7) := by assumption) : G Γ m_X7_forget Ret 0 0 0 [some (vR p0), none] [] w := by
  refine G_aload_n dX7_forget_0 rfl ?_
  refine G_getI dX7_forget_1 fl_RX7_114 h1 rfl ?_
  refine G_istore_n dX7_forget_4 (by decide) rfl ?_
  refine G_aload_n dX7_forget_5 rfl ?_
  refine G_const dX7_forget_6 ?_
  refine G_putI dX7_forget_7 fl_RX7_114 h1 rfl ?_
  refine G_iload_n dX7_forget_10 rfl ?_
  exact G_reti dX7_forget_11 trivial ⟨rfl, Nat.le_of_ble_eq_true rfl⟩ kr
theorem k_X7_isSo_0 {Γ : Gm} {Ret : Option Value → Wd → Prop} {a1 a2 : Int} {p0 : Nat} {w : Wd} (km : G Γ m_X7_isSo Ret 0 0 5 [some (vR p0), some (vI a1), some (vI a2), some (vI 1), some (vI 0), none] [] w) : G Γ m_X7_isSo Ret 0 0 0 [some (vR p0), some (vI a1), some (vI a2), none, none, none] [] w := by
  refine G_const dX7_isSo_0 ?_
  refine G_istore_n dX7_isSo_1 (by decide) rfl ?_
  refine G_const dX7_isSo_2 ?_
  refine G_istore dX7_isSo_3 (by decide) rfl ?_
  exact km
theorem k_X7_isSo_5 {Γ : Gm} {Ret : Option Value → Wd → Prop} {a1 a2 a3 a4 : Int} {p0 : Nat} {o5 : Option Value} {w : Wd} (kt : (wI w p0 20) ≤ a4 → G Γ m_X7_isSo Ret 0 0 79 [some (vR p0), some (vI a1), some (vI a2), some (vI a3), some (vI a4), o5] [] w) (kf : ¬ ((wI w p0 20) ≤ a4) → G Γ m_X7_isSo Ret 0 0 14 [some (vR p0), some (vI a1), some (vI a2), some (vI a3), some (vI a4), o5] [] w) (h1 : sh w p0 = some (.inr 7) := by assumption) (h2 : sm a4 := by omega) (h3 : sm (wI w p0 20) := by omega) : G Γ m_X7_isSo Ret 0 0 5 [some (vR p0), some (vI a1), some (vI a2), some (vI a3), some (vI a4), o5] [] w := by
  refine G_iload dX7_isSo_5 rfl ?_
  refine G_aload_n dX7_isSo_7 rfl ?_
  refine G_getI dX7_isSo_8 fl_RX7_114 h1 rfl ?_
  exact G_icmp_ge dX7_isSo_11 (by decide) h2 h3 kt kf
theorem k_X7_isSo_79 {Γ : Gm} {Ret : Option Value → Wd → Prop} {a3 : Int} {o0 o1 o2 o4 o5 : Option Value} {w : Wd} (kr : Ret (some (vI a3)) w) (h1 : a3 = 0 ∨ a3 = 1 := by omega) : G Γ m_X7_isSo Ret 0 0 79 [o0, o1, o2, some (vI a3), o4, o5] [] w := by
  refine G_iload_n dX7_isSo_79 rfl ?_
  exact G_reti dX7_isSo_80 (by rcases h1 with q | q <;> rw [q]; exact Or.inl rfl; exact Or.inr rfl) ⟨rfl, Nat.le_of_ble_eq_true rfl⟩ kr
theorem k_X7_isSo_14 {Γ : Gm} {Ret : Option Value → Wd → Prop} {a1 a2 a3 a4 z3 : Int} {p0 q1 n2 : Nat} {o5 : Option Value} {w : Wd} (c6 : SpP Γ m_X7_givesBy [vI a1, vI a2, vI 1] w z3) (kt : 0 ≤ (((wI w q1 (2 * a4)) + 1) - z3) → G Γ m_X7_isSo Ret 0 0 43 [some (vR p0), some (vI a1), some (vI a2), some (vI a3), some (vI a4), some (vI (((wI w q1 (2 * a4)) + 1) - z3))] [] w) (kf : ¬ (0 ≤ (((wI w q1 (2 * a4)) + 1) - z3)) → G Γ m_X7_isSo Ret 0 0 39 [some (vR p0), some (vI a1), some (vI a2), some (vI a3), some (vI a4), some (vI (((wI w q1 (2 * a4)) + 1) - z3))] [] w) (h1 : sh w p0 = some (.inr 7) := by assumption) (h2 : wR w p0 21 = vR q1 := by assumption) (h3 : sh w q1 = some (.inl (0, n2)) := by assumption) (h4 : (0 : Int) ≤ (2 * a4) ∧ (2 * a4) < (n2 : Int) := by omega) (h5 : n2 < 2147483648 := by omega) (h7 : sm (((wI w q1 (2 * a4)) + 1) - z3) := by omega) : G Γ m_X7_isSo Ret 0 0 14 [some (vR p0), some (vI a1), some (vI a2), some (vI a3), some (vI a4), o5] [] w := by
  refine G_aload_n dX7_isSo_14 rfl ?_
  refine G_getR dX7_isSo_15 fl_RX7_43 h1 rfl h2 ?_
  refine G_const dX7_isSo_18 ?_
  refine G_iload dX7_isSo_19 rfl ?_
  refine G_imul dX7_isSo_21 ?_
  refine G_iald dX7_isSo_22 h3 h4 h5 ?_
  refine G_const dX7_isSo_23 ?_
  refine G_iadd dX7_isSo_24 ?_
  refine G_iload_n dX7_isSo_25 rfl ?_
  refine G_iload_n dX7_isSo_26 rfl ?_
  refine G_const dX7_isSo_27 ?_
  refine G_SP (as := [vI a1, vI a2, vI 1]) (st := [vI ((wI w q1 (2 * a4)) + 1)]) n0_X7_givesBy dX7_isSo_28 ml_RX7_154 mc_X7_givesBy rfl ⟨by decide, ⟨Nat.le_of_ble_eq_true rfl, Nat.le_of_ble_eq_true rfl⟩, Nat.le_of_ble_eq_true rfl⟩ c6 ?_
  refine G_isub dX7_isSo_31 ?_
  refine G_istore dX7_isSo_32 (by decide) rfl ?_
  refine G_iload dX7_isSo_34 rfl ?_
  exact G_if_ge dX7_isSo_36 (by decide) h7 kt kf
theorem k_X7_isSo_43 {Γ : Gm} {Ret : Option Value → Wd → Prop} {a1 a2 a3 a4 a5 : Int} {p0 : Nat} {w : Wd} (kt : a3 = 0 → G Γ m_X7_isSo Ret 0 0 71 [some (vR p0), some (vI a1), some (vI a2), some (vI a3), some (vI a4), some (vI a5)] [] w) (kf : ¬ (a3 = 0) → G Γ m_X7_isSo Ret 0 0 51 [some (vR p0), some (vI a1), some (vI a2), some (vI a3), some (vI a4), some (vI a5)] [] w) (h1 : sm a3 := by omega) : G Γ m_X7_isSo Ret 0 0 43 [some (vR p0), some (vI a1), some (vI a2), some (vI a3), some (vI a4), some (vI a5)] [] w := by
  refine G_iload dX7_isSo_43 rfl ?_
  refine G_istore dX7_isSo_45 (by decide) rfl ?_
  refine G_iload_n dX7_isSo_47 rfl ?_
  exact G_if_eq dX7_isSo_48 (by decide) h1 kt kf
theorem k_X7_isSo_39 {Γ : Gm} {Ret : Option Value → Wd → Prop} {a1 a2 a3 a4 : Int} {p0 : Nat} {o5 : Option Value} {w : Wd} (kt : a3 = 0 → G Γ m_X7_isSo Ret 0 0 71 [some (vR p0), some (vI a1), some (vI a2), some (vI a3), some (vI a4), some (vI 0)] [] w) (kf : ¬ (a3 = 0) → G Γ m_X7_isSo Ret 0 0 51 [some (vR p0), some (vI a1), some (vI a2), some (vI a3), some (vI a4), some (vI 0)] [] w) (h1 : sm a3 := by omega) : G Γ m_X7_isSo Ret 0 0 39 [some (vR p0), some (vI a1), some (vI a2), some (vI a3), some (vI a4), o5] [] w := by
  refine G_const dX7_isSo_39 ?_
  refine G_goto dX7_isSo_40 (tgt := 45) (by decide) ?_
  refine G_istore dX7_isSo_45 (by decide) rfl ?_
  refine G_iload_n dX7_isSo_47 rfl ?_
  exact G_if_eq dX7_isSo_48 (by decide) h1 kt kf
theorem k_X7_isSo_71 {Γ : Gm} {Ret : Option Value → Wd → Prop} {a1 a2 a4 : Int} {p0 : Nat} {o3 o5 : Option Value} {w : Wd} (km : G Γ m_X7_isSo Ret 0 0 5 [some (vR p0), some (vI a1), some (vI a2), some (vI 0), some (vI (a4 + 1)), o5] [] w) : G Γ m_X7_isSo Ret 0 0 71 [some (vR p0), some (vI a1), some (vI a2), o3, some (vI a4), o5] [] w := by
  refine G_const dX7_isSo_71 ?_
  refine G_istore_n dX7_isSo_72 (by decide) rfl ?_
  refine G_iinc dX7_isSo_73 (by decide) rfl rfl ?_
  refine G_goto dX7_isSo_76 (tgt := 5) (by decide) ?_
  exact km
theorem k_X7_isSo_51 {Γ : Gm} {Ret : Option Value → Wd → Prop} {a1 a2 a4 a5 : Int} {p0 q1 n2 : Nat} {o3 : Option Value} {w : Wd} (kt : a5 ≠ (wI w q1 ((2 * a4) + 1)) → G Γ m_X7_isSo Ret 0 0 71 [some (vR p0), some (vI a1), some (vI a2), o3, some (vI a4), some (vI a5)] [] w) (kf : a5 = (wI w q1 ((2 * a4) + 1)) → G Γ m_X7_isSo Ret 0 0 67 [some (vR p0), some (vI a1), some (vI a2), o3, some (vI a4), some (vI a5)] [] w) (h1 : sh w p0 = some (.inr 7) := by assumption) (h2 : wR w p0 21 = vR q1 := by assumption) (h3 : sh w q1 = some (.inl (0, n2)) := by assumption) (h4 : (0 : Int) ≤ ((2 * a4) + 1) ∧ ((2 * a4) + 1) < (n2 : Int) := by omega) (h5 : n2 < 2147483648 := by omega) (h6 : sm a5 := by omega) (h7 : sm (wI w q1 ((2 * a4) + 1)) := by omega) : G Γ m_X7_isSo Ret 0 0 51 [some (vR p0), some (vI a1), some (vI a2), o3, some (vI a4), some (vI a5)] [] w := by
  refine G_iload dX7_isSo_51 rfl ?_
  refine G_aload_n dX7_isSo_53 rfl ?_
  refine G_getR dX7_isSo_54 fl_RX7_43 h1 rfl h2 ?_
  refine G_const dX7_isSo_57 ?_
  refine G_iload dX7_isSo_58 rfl ?_
  refine G_imul dX7_isSo_60 ?_
  refine G_const dX7_isSo_61 ?_
  refine G_iadd dX7_isSo_62 ?_
  refine G_iald dX7_isSo_63 h3 h4 h5 ?_
  exact G_icmp_ne dX7_isSo_64 (by decide) h6 h7 kt kf
theorem k_X7_isSo_67 {Γ : Gm} {Ret : Option Value → Wd → Prop} {a1 a2 a4 : Int} {p0 : Nat} {o3 o5 : Option Value} {w : Wd} (km : G Γ m_X7_isSo Ret 0 0 5 [some (vR p0), some (vI a1), some (vI a2), some (vI 1), some (vI (a4 + 1)), o5] [] w) : G Γ m_X7_isSo Ret 0 0 67 [some (vR p0), some (vI a1), some (vI a2), o3, some (vI a4), o5] [] w := by
  refine G_const dX7_isSo_67 ?_
  refine G_goto dX7_isSo_68 (tgt := 72) (by decide) ?_
  refine G_istore_n dX7_isSo_72 (by decide) rfl ?_
  refine G_iinc dX7_isSo_73 (by decide) rfl rfl ?_
  refine G_goto dX7_isSo_76 (tgt := 5) (by decide) ?_
  exact km
theorem k_X7_may_0 {Γ : Gm} {Ret : Option Value → Wd → Prop} {a1 z1 : Int} {p0 : Nat} {w : Wd} (c1 : SpP Γ m_X7_in [vI a1, vI 0, vI 1] w z1) (kt : z1 ≠ 0 → G Γ m_X7_may Ret 0 0 11 [some (vR p0), some (vI a1), none, none, none] [] w) (kf : z1 = 0 → G Γ m_X7_may Ret 0 0 9 [some (vR p0), some (vI a1), none, none, none] [] w) (h2 : sm z1 := by omega) : G Γ m_X7_may Ret 0 0 0 [some (vR p0), some (vI a1), none, none, none] [] w := by
  refine G_iload_n dX7_may_0 rfl ?_
  refine G_const dX7_may_1 ?_
  refine G_const dX7_may_2 ?_
  refine G_SP (as := [vI a1, vI 0, vI 1]) (st := []) n0_X7_in dX7_may_3 ml_RX7_63 mc_X7_in rfl ⟨by decide, ⟨Nat.le_of_ble_eq_true rfl, Nat.le_of_ble_eq_true rfl⟩, Nat.le_of_ble_eq_true rfl⟩ c1 ?_
  exact G_if_ne dX7_may_6 (by decide) h2 kt kf
theorem k_X7_may_11 {Γ : Gm} {Ret : Option Value → Wd → Prop} {a1 : Int} {p0 : Nat} {o2 o3 o4 : Option Value} {w : Wd} (km : G Γ m_X7_may Ret 0 0 15 [some (vR p0), some (vI a1), some (vI 0), some (vI a1), o4] [] w) : G Γ m_X7_may Ret 0 0 11 [some (vR p0), some (vI a1), o2, o3, o4] [] w := by
  refine G_const dX7_may_11 ?_
  refine G_istore_n dX7_may_12 (by decide) rfl ?_
  refine G_iload_n dX7_may_13 rfl ?_
  refine G_istore_n dX7_may_14 (by decide) rfl ?_
  exact km
theorem k_X7_may_9 {Γ : Gm} {Ret : Option Value → Wd → Prop} {o0 o1 o2 o3 o4 : Option Value} {w : Wd} (kr : Ret (some (vI (-1))) w) : G Γ m_X7_may Ret 0 0 9 [o0, o1, o2, o3, o4] [] w := by
  refine G_const dX7_may_9 ?_
  exact G_reti dX7_may_10 trivial ⟨rfl, Nat.le_of_ble_eq_true rfl⟩ kr
theorem k_X7_may_15 {Γ : Gm} {Ret : Option Value → Wd → Prop} {a1 a2 a3 : Int} {p0 : Nat} {o4 : Option Value} {w : Wd} (kt : a1 ≠ 0 → G Γ m_X7_may Ret 0 0 24 [some (vR p0), some (vI a1), some (vI a2), some (vI a3), o4] [vI a3] w) (kf : a1 = 0 → G Γ m_X7_may Ret 0 0 20 [some (vR p0), some (vI a1), some (vI a2), some (vI a3), o4] [vI a3] w) (h1 : sm a1 := by omega) : G Γ m_X7_may Ret 0 0 15 [some (vR p0), some (vI a1), some (vI a2), some (vI a3), o4] [] w := by
  refine G_iload_n dX7_may_15 rfl ?_
  refine G_iload_n dX7_may_16 rfl ?_
  exact G_if_ne dX7_may_17 (by decide) h1 kt kf
theorem k_X7_may_24 {Γ : Gm} {Ret : Option Value → Wd → Prop} {a1 a2 a3 s0 : Int} {p0 : Nat} {o4 : Option Value} {w : Wd} (kt : 10 ≤ s0 → G Γ m_X7_may Ret 0 0 81 [some (vR p0), some (vI a1), some (vI a2), some (vI a3), o4] [] w) (kf : ¬ (10 ≤ s0) → G Γ m_X7_may Ret 0 0 29 [some (vR p0), some (vI a1), some (vI a2), some (vI a3), o4] [] w) (h1 : sm s0 := by omega) : G Γ m_X7_may Ret 0 0 24 [some (vR p0), some (vI a1), some (vI a2), some (vI a3), o4] [vI s0] w := by
  refine G_bipush dX7_may_24 (by decide +kernel) ?_
  exact G_icmp_ge dX7_may_26 (by decide) h1 (by decide) kt kf
theorem k_X7_may_20 {Γ : Gm} {Ret : Option Value → Wd → Prop} {a1 a2 a3 s0 : Int} {p0 : Nat} {o4 : Option Value} {w : Wd} (kt : 4 ≤ s0 → G Γ m_X7_may Ret 0 0 81 [some (vR p0), some (vI a1), some (vI a2), some (vI a3), o4] [] w) (kf : ¬ (4 ≤ s0) → G Γ m_X7_may Ret 0 0 29 [some (vR p0), some (vI a1), some (vI a2), some (vI a3), o4] [] w) (h1 : sm s0 := by omega) : G Γ m_X7_may Ret 0 0 20 [some (vR p0), some (vI a1), some (vI a2), some (vI a3), o4] [vI s0] w := by
  refine G_const dX7_may_20 ?_
  refine G_goto dX7_may_21 (tgt := 26) (by decide) ?_
  exact G_icmp_ge dX7_may_26 (by decide) h1 (by decide) kt kf
theorem k_X7_may_81 {Γ : Gm} {Ret : Option Value → Wd → Prop} {a2 : Int} {o0 o1 o3 o4 : Option Value} {w : Wd} (kr : Ret (some (vI a2)) w) : G Γ m_X7_may Ret 0 0 81 [o0, o1, some (vI a2), o3, o4] [] w := by
  refine G_iload_n dX7_may_81 rfl ?_
  exact G_reti dX7_may_82 trivial ⟨rfl, Nat.le_of_ble_eq_true rfl⟩ kr
theorem k_X7_may_29 {Γ : Gm} {Ret : Option Value → Wd → Prop} {a1 a2 a3 : Int} {p0 : Nat} {o4 : Option Value} {w : Wd} (kt : a1 ≠ 0 → G Γ m_X7_may Ret 0 0 47 [some (vR p0), some (vI a1), some (vI a2), some (vI a3), o4] [] w) (kf : a1 = 0 → G Γ m_X7_may Ret 0 0 33 [some (vR p0), some (vI a1), some (vI a2), some (vI a3), o4] [] w) (h1 : sm a1 := by omega) : G Γ m_X7_may Ret 0 0 29 [some (vR p0), some (vI a1), some (vI a2), some (vI a3), o4] [] w := by
  refine G_iload_n dX7_may_29 rfl ?_
  exact G_if_ne dX7_may_30 (by decide) h1 kt kf
theorem k_X7_may_47 {Γ : Gm} {Ret : Option Value → Wd → Prop} {a1 a2 a3 z3 : Int} {p0 q1 n2 : Nat} {o4 : Option Value} {w : Wd} (c6 : SpP Γ m_X7_isSo [vR p0, vI (wI w q1 4), vI a3] w z3) (kt : z3 = 0 → G Γ m_X7_may Ret 0 0 72 [some (vR p0), some (vI a1), some (vI a2), some (vI a3), some (vI z3)] [vI a2] w) (kf : ¬ (z3 = 0) → G Γ m_X7_may Ret 0 0 66 [some (vR p0), some (vI a1), some (vI a2), some (vI a3), some (vI z3)] [vI a2] w) (h1 : sh w p0 = some (.inr 7) := by assumption) (h2 : wR w p0 13 = vR q1 := by assumption) (h3 : sh w q1 = some (.inl (0, n2)) := by assumption) (h4 : (0 : Int) ≤ 4 ∧ 4 < (n2 : Int) := by omega) (h5 : n2 < 2147483648 := by omega) (h7 : sm z3 := by omega) : G Γ m_X7_may Ret 0 0 47 [some (vR p0), some (vI a1), some (vI a2), some (vI a3), o4] [] w := by
  refine G_aload_n dX7_may_47 rfl ?_
  refine G_aload_n dX7_may_48 rfl ?_
  refine G_getR dX7_may_49 fl_RX7_28 h1 rfl h2 ?_
  refine G_const dX7_may_52 ?_
  refine G_iald dX7_may_53 h3 h4 h5 ?_
  refine G_iload_n dX7_may_54 rfl ?_
  refine G_VP (as := [vI (wI w q1 4), vI a3]) (st := []) n0_X7_isSo dX7_may_55 ml_RX7_217 mc_X7_isSo rfl ⟨by decide, ⟨Nat.le_of_ble_eq_true rfl, Nat.le_of_ble_eq_true rfl⟩, Nat.le_of_ble_eq_true rfl⟩ h1 ⟨_, _, rfl⟩ c6 ?_
  refine G_istore dX7_may_58 (by decide) rfl ?_
  refine G_iload_n dX7_may_60 rfl ?_
  refine G_iload dX7_may_61 rfl ?_
  exact G_if_eq dX7_may_63 (by decide) h7 kt kf
theorem k_X7_may_33 {Γ : Gm} {Ret : Option Value → Wd → Prop} {a1 a2 a3 z3 : Int} {p0 q1 n2 : Nat} {o4 : Option Value} {w : Wd} (c6 : SpP Γ m_X7_isSo [vR p0, vI a3, vI (wI w q1 5)] w z3) (kt : z3 = 0 → G Γ m_X7_may Ret 0 0 72 [some (vR p0), some (vI a1), some (vI a2), some (vI a3), some (vI z3)] [vI a2] w) (kf : ¬ (z3 = 0) → G Γ m_X7_may Ret 0 0 66 [some (vR p0), some (vI a1), some (vI a2), some (vI a3), some (vI z3)] [vI a2] w) (h1 : sh w p0 = some (.inr 7) := by assumption) (h2 : wR w p0 13 = vR q1 := by assumption) (h3 : sh w q1 = some (.inl (0, n2)) := by assumption) (h4 : (0 : Int) ≤ 5 ∧ 5 < (n2 : Int) := by omega) (h5 : n2 < 2147483648 := by omega) (h7 : sm z3 := by omega) : G Γ m_X7_may Ret 0 0 33 [some (vR p0), some (vI a1), some (vI a2), some (vI a3), o4] [] w := by
  refine G_aload_n dX7_may_33 rfl ?_
  refine G_iload_n dX7_may_34 rfl ?_
  refine G_aload_n dX7_may_35 rfl ?_
  refine G_getR dX7_may_36 fl_RX7_28 h1 rfl h2 ?_
  refine G_const dX7_may_39 ?_
  refine G_iald dX7_may_40 h3 h4 h5 ?_
  refine G_VP (as := [vI a3, vI (wI w q1 5)]) (st := []) n0_X7_isSo dX7_may_41 ml_RX7_217 mc_X7_isSo rfl ⟨by decide, ⟨Nat.le_of_ble_eq_true rfl, Nat.le_of_ble_eq_true rfl⟩, Nat.le_of_ble_eq_true rfl⟩ h1 ⟨_, _, rfl⟩ c6 ?_
  refine G_goto dX7_may_44 (tgt := 58) (by decide) ?_
  refine G_istore dX7_may_58 (by decide) rfl ?_
  refine G_iload_n dX7_may_60 rfl ?_
  refine G_iload dX7_may_61 rfl ?_
  exact G_if_eq dX7_may_63 (by decide) h7 kt kf
theorem k_X7_may_72 {Γ : Gm} {Ret : Option Value → Wd → Prop} {a1 a3 s0 : Int} {p0 : Nat} {o2 o4 : Option Value} {w : Wd} (km : G Γ m_X7_may Ret 0 0 15 [some (vR p0), some (vI a1), some (vI (zor s0 0)), some (vI (a3 + 1)), o4] [] w) : G Γ m_X7_may Ret 0 0 72 [some (vR p0), some (vI a1), o2, some (vI a3), o4] [vI s0] w := by
  refine G_const dX7_may_72 ?_
  refine G_ior dX7_may_73 ?_
  refine G_istore_n dX7_may_74 (by decide) rfl ?_
  refine G_iinc dX7_may_75 (by decide) rfl rfl ?_
  refine G_goto dX7_may_78 (tgt := 15) (by decide) ?_
  exact km
theorem k_X7_may_66 {Γ : Gm} {Ret : Option Value → Wd → Prop} {a1 a3 s0 : Int} {p0 : Nat} {o2 o4 : Option Value} {w : Wd} (km : G Γ m_X7_may Ret 0 0 15 [some (vR p0), some (vI a1), some (vI (zor s0 (zshl 1 a3))), some (vI (a3 + 1)), o4] [] w) : G Γ m_X7_may Ret 0 0 66 [some (vR p0), some (vI a1), o2, some (vI a3), o4] [vI s0] w := by
  refine G_const dX7_may_66 ?_
  refine G_iload_n dX7_may_67 rfl ?_
  refine G_ishl dX7_may_68 ?_
  refine G_goto dX7_may_69 (tgt := 73) (by decide) ?_
  refine G_ior dX7_may_73 ?_
  refine G_istore_n dX7_may_74 (by decide) rfl ?_
  refine G_iinc dX7_may_75 (by decide) rfl rfl ?_
  refine G_goto dX7_may_78 (tgt := 15) (by decide) ?_
  exact km
theorem k_X7_hall_0 {Γ : Gm} {Ret : Option Value → Wd → Prop} {a1 a2 z1 : Int} {p0 : Nat} {w : Wd} (c1 : SpP Γ m_X7_in [vI a1, vI 1, vI 6] w z1) (kt : z1 = 0 → G Γ m_X7_hall Ret 0 0 20 [some (vR p0), some (vI a1), some (vI a2), none] [] w) (kf : ¬ (z1 = 0) → G Γ m_X7_hall Ret 0 0 10 [some (vR p0), some (vI a1), some (vI a2), none] [] w) (h2 : sm z1 := by omega) : G Γ m_X7_hall Ret 0 0 0 [some (vR p0), some (vI a1), some (vI a2), none] [] w := by
  refine G_iload_n dX7_hall_0 rfl ?_
  refine G_const dX7_hall_1 ?_
  refine G_bipush dX7_hall_2 (by decide +kernel) ?_
  refine G_SP (as := [vI a1, vI 1, vI 6]) (st := []) n0_X7_in dX7_hall_4 ml_RX7_63 mc_X7_in rfl ⟨by decide, ⟨Nat.le_of_ble_eq_true rfl, Nat.le_of_ble_eq_true rfl⟩, Nat.le_of_ble_eq_true rfl⟩ c1 ?_
  exact G_if_eq dX7_hall_7 (by decide) h2 kt kf
theorem k_X7_hall_20 {Γ : Gm} {Ret : Option Value → Wd → Prop} {o0 o1 o2 o3 : Option Value} {w : Wd} (kr : Ret (some (vI (-1))) w) : G Γ m_X7_hall Ret 0 0 20 [o0, o1, o2, o3] [] w := by
  refine G_const dX7_hall_20 ?_
  exact G_reti dX7_hall_21 trivial ⟨rfl, Nat.le_of_ble_eq_true rfl⟩ kr
theorem k_X7_hall_10 {Γ : Gm} {Ret : Option Value → Wd → Prop} {a1 a2 z1 : Int} {p0 : Nat} {o3 : Option Value} {w : Wd} (c1 : SpP Γ m_X7_in [vI a2, vI 1, vI 40] w z1) (kt : z1 ≠ 0 → G Γ m_X7_hall Ret 0 0 22 [some (vR p0), some (vI a1), some (vI a2), o3] [] w) (kf : z1 = 0 → G Γ m_X7_hall Ret 0 0 20 [some (vR p0), some (vI a1), some (vI a2), o3] [] w) (h2 : sm z1 := by omega) : G Γ m_X7_hall Ret 0 0 10 [some (vR p0), some (vI a1), some (vI a2), o3] [] w := by
  refine G_iload_n dX7_hall_10 rfl ?_
  refine G_const dX7_hall_11 ?_
  refine G_bipush dX7_hall_12 (by decide +kernel) ?_
  refine G_SP (as := [vI a2, vI 1, vI 40]) (st := []) n0_X7_in dX7_hall_14 ml_RX7_63 mc_X7_in rfl ⟨by decide, ⟨Nat.le_of_ble_eq_true rfl, Nat.le_of_ble_eq_true rfl⟩, Nat.le_of_ble_eq_true rfl⟩ c1 ?_
  exact G_if_ne dX7_hall_17 (by decide) h2 kt kf
theorem k_X7_hall_22 {Γ : Gm} {Ret : Option Value → Wd → Prop} {a1 a2 : Int} {p0 : Nat} {o3 : Option Value} {w : Wd} (km : G Γ m_X7_hall Ret 0 0 24 [some (vR p0), some (vI a1), some (vI a2), some (vI 0)] [] w) : G Γ m_X7_hall Ret 0 0 22 [some (vR p0), some (vI a1), some (vI a2), o3] [] w := by
  refine G_const dX7_hall_22 ?_
  refine G_istore_n dX7_hall_23 (by decide) rfl ?_
  exact km
theorem k_X7_hall_24 {Γ : Gm} {Ret : Option Value → Wd → Prop} {a1 a2 a3 : Int} {p0 q1 n2 : Nat} {w : Wd} (kt : (wI w q1 0) ≤ a3 → G Γ m_X7_hall Ret 0 0 74 [some (vR p0), some (vI a1), some (vI a2), some (vI a3)] [] w) (kf : ¬ ((wI w q1 0) ≤ a3) → G Γ m_X7_hall Ret 0 0 34 [some (vR p0), some (vI a1), some (vI a2), some (vI a3)] [] w) (h1 : sh w p0 = some (.inr 7) := by assumption) (h2 : wR w p0 14 = vR q1 := by assumption) (h3 : sh w q1 = some (.inl (0, n2)) := by assumption) (h4 : (0 : Int) ≤ 0 ∧ 0 < (n2 : Int) := by omega) (h5 : n2 < 2147483648 := by omega) (h6 : sm a3 := by omega) (h7 : sm (wI w q1 0) := by omega) : G Γ m_X7_hall Ret 0 0 24 [some (vR p0), some (vI a1), some (vI a2), some (vI a3)] [] w := by
  refine G_iload_n dX7_hall_24 rfl ?_
  refine G_aload_n dX7_hall_25 rfl ?_
  refine G_getR dX7_hall_26 fl_RX7_31 h1 rfl h2 ?_
  refine G_const dX7_hall_29 ?_
  refine G_iald dX7_hall_30 h3 h4 h5 ?_
  exact G_icmp_ge dX7_hall_31 (by decide) h6 h7 kt kf
theorem k_X7_hall_74 {Γ : Gm} {Ret : Option Value → Wd → Prop} {a1 a2 : Int} {p0 q1 n2 : Nat} {o3 : Option Value} {w : Wd} (kt : (wI w q1 0) < a1 → G Γ m_X7_hall Ret 0 0 100 [some (vR p0), some (vI a1), some (vI a2), o3] [] w) (kf : ¬ ((wI w q1 0) < a1) → G Γ m_X7_hall Ret 0 0 84 [some (vR p0), some (vI a1), some (vI a2), o3] [] w) (h1 : sh w p0 = some (.inr 7) := by assumption) (h2 : wR w p0 13 = vR q1 := by assumption) (h3 : sh w q1 = some (.inl (0, n2)) := by assumption) (h4 : (0 : Int) ≤ 0 ∧ 0 < (n2 : Int) := by omega) (h5 : n2 < 2147483648 := by omega) (h6 : sm (wI w q1 0) := by omega) (h7 : sm a1 := by omega) : G Γ m_X7_hall Ret 0 0 74 [some (vR p0), some (vI a1), some (vI a2), o3] [] w := by
  refine G_aload_n dX7_hall_74 rfl ?_
  refine G_getR dX7_hall_75 fl_RX7_28 h1 rfl h2 ?_
  refine G_const dX7_hall_78 ?_
  refine G_iald dX7_hall_79 h3 h4 h5 ?_
  refine G_iload_n dX7_hall_80 rfl ?_
  exact G_icmp_lt dX7_hall_81 (by decide) h6 h7 kt kf
theorem k_X7_hall_34 {Γ : Gm} {Ret : Option Value → Wd → Prop} {a1 a2 a3 : Int} {p0 q1 q3 n2 n4 : Nat} {w : Wd} (kt : ((wI w q1 0) - (wI w q3 (1 + a3))) < a1 → G Γ m_X7_hall Ret 0 0 68 [some (vR p0), some (vI a1), some (vI a2), some (vI a3)] [] w) (kf : ¬ (((wI w q1 0) - (wI w q3 (1 + a3))) < a1) → G Γ m_X7_hall Ret 0 0 53 [some (vR p0), some (vI a1), some (vI a2), some (vI a3)] [] w) (h1 : sh w p0 = some (.inr 7) := by assumption) (h2 : wR w p0 13 = vR q1 := by assumption) (h3 : sh w q1 = some (.inl (0, n2)) := by assumption) (h4 : (0 : Int) ≤ 0 ∧ 0 < (n2 : Int) := by omega) (h5 : n2 < 2147483648 := by omega) (h6 : wR w p0 14 = vR q3 := by assumption) (h7 : sh w q3 = some (.inl (0, n4)) := by assumption) (h8 : (0 : Int) ≤ (1 + a3) ∧ (1 + a3) < (n4 : Int) := by omega) (h9 : n4 < 2147483648 := by omega) (h10 : sm ((wI w q1 0) - (wI w q3 (1 + a3))) := by omega) (h11 : sm a1 := by omega) : G Γ m_X7_hall Ret 0 0 34 [some (vR p0), some (vI a1), some (vI a2), some (vI a3)] [] w := by
  refine G_aload_n dX7_hall_34 rfl ?_
  refine G_getR dX7_hall_35 fl_RX7_28 h1 rfl h2 ?_
  refine G_const dX7_hall_38 ?_
  refine G_iald dX7_hall_39 h3 h4 h5 ?_
  refine G_aload_n dX7_hall_40 rfl ?_
  refine G_getR dX7_hall_41 fl_RX7_31 h1 rfl h6 ?_
  refine G_const dX7_hall_44 ?_
  refine G_iload_n dX7_hall_45 rfl ?_
  refine G_iadd dX7_hall_46 ?_
  refine G_iald dX7_hall_47 h7 h8 h9 ?_
  refine G_isub dX7_hall_48 ?_
  refine G_iload_n dX7_hall_49 rfl ?_
  exact G_icmp_lt dX7_hall_50 (by decide) h10 h11 kt kf
theorem k_X7_hall_100 {Γ : Gm} {Ret : Option Value → Wd → Prop} {o0 o1 o2 o3 : Option Value} {w : Wd} (kr : Ret (some (vI 0)) w) : G Γ m_X7_hall Ret 0 0 100 [o0, o1, o2, o3] [] w := by
  refine G_const dX7_hall_100 ?_
  exact G_reti dX7_hall_101 trivial ⟨rfl, Nat.le_of_ble_eq_true rfl⟩ kr
theorem k_X7_hall_84 {Γ : Gm} {Ret : Option Value → Wd → Prop} {a2 z2 : Int} {p0 q1 : Nat} {o1 o3 : Option Value} {w : Wd} (c3 : SpP Γ m_X7_rollIn [vR p0, vR q1] w z2) (kt : z2 < a2 → G Γ m_X7_hall Ret 0 0 100 [some (vR p0), o1, some (vI a2), o3] [] w) (kf : ¬ (z2 < a2) → G Γ m_X7_hall Ret 0 0 96 [some (vR p0), o1, some (vI a2), o3] [] w) (h1 : sh w p0 = some (.inr 7) := by assumption) (h2 : wR w p0 14 = vR q1 := by assumption) (h4 : sm z2 := by omega) (h5 : sm a2 := by omega) : G Γ m_X7_hall Ret 0 0 84 [some (vR p0), o1, some (vI a2), o3] [] w := by
  refine G_aload_n dX7_hall_84 rfl ?_
  refine G_aload_n dX7_hall_85 rfl ?_
  refine G_getR dX7_hall_86 fl_RX7_31 h1 rfl h2 ?_
  refine G_VP (as := [vR q1]) (st := []) n0_X7_rollIn dX7_hall_89 ml_RX7_145 mc_X7_rollIn rfl ⟨by decide, ⟨Nat.le_of_ble_eq_true rfl, Nat.le_of_ble_eq_true rfl⟩, Nat.le_of_ble_eq_true rfl⟩ h1 ⟨_, _, rfl⟩ c3 ?_
  refine G_iload_n dX7_hall_92 rfl ?_
  exact G_icmp_lt dX7_hall_93 (by decide) h4 h5 kt kf
theorem k_X7_hall_68 {Γ : Gm} {Ret : Option Value → Wd → Prop} {a1 a2 a3 : Int} {p0 : Nat} {w : Wd} (km : G Γ m_X7_hall Ret 0 0 24 [some (vR p0), some (vI a1), some (vI a2), some (vI (a3 + 1))] [] w) : G Γ m_X7_hall Ret 0 0 68 [some (vR p0), some (vI a1), some (vI a2), some (vI a3)] [] w := by
  refine G_iinc dX7_hall_68 (by decide) rfl rfl ?_
  refine G_goto dX7_hall_71 (tgt := 24) (by decide) ?_
  exact km
theorem k_X7_hall_53 {Γ : Gm} {Ret : Option Value → Wd → Prop} {a1 a2 a3 : Int} {p0 q1 n2 : Nat} {w : Wd} (kt : (wI w q1 (13 + a3)) < a2 → G Γ m_X7_hall Ret 0 0 68 [some (vR p0), some (vI a1), some (vI a2), some (vI a3)] [] w) (kf : ¬ ((wI w q1 (13 + a3)) < a2) → G Γ m_X7_hall Ret 0 0 66 [some (vR p0), some (vI a1), some (vI a2), some (vI a3)] [] w) (h1 : sh w p0 = some (.inr 7) := by assumption) (h2 : wR w p0 14 = vR q1 := by assumption) (h3 : sh w q1 = some (.inl (0, n2)) := by assumption) (h4 : (0 : Int) ≤ (13 + a3) ∧ (13 + a3) < (n2 : Int) := by omega) (h5 : n2 < 2147483648 := by omega) (h6 : sm (wI w q1 (13 + a3)) := by omega) (h7 : sm a2 := by omega) : G Γ m_X7_hall Ret 0 0 53 [some (vR p0), some (vI a1), some (vI a2), some (vI a3)] [] w := by
  refine G_aload_n dX7_hall_53 rfl ?_
  refine G_getR dX7_hall_54 fl_RX7_31 h1 rfl h2 ?_
  refine G_bipush dX7_hall_57 (by decide +kernel) ?_
  refine G_iload_n dX7_hall_59 rfl ?_
  refine G_iadd dX7_hall_60 ?_
  refine G_iald dX7_hall_61 h3 h4 h5 ?_
  refine G_iload_n dX7_hall_62 rfl ?_
  exact G_icmp_lt dX7_hall_63 (by decide) h6 h7 kt kf
theorem k_X7_hall_96 {Γ : Gm} {Ret : Option Value → Wd → Prop} {o0 o1 o2 o3 : Option Value} {w : Wd} (kr : Ret (some (vI 2)) w) : G Γ m_X7_hall Ret 0 0 96 [o0, o1, o2, o3] [] w := by
  refine G_const dX7_hall_96 ?_
  refine G_goto dX7_hall_97 (tgt := 101) (by decide) ?_
  exact G_reti dX7_hall_101 trivial ⟨rfl, Nat.le_of_ble_eq_true rfl⟩ kr
theorem k_X7_hall_66 {Γ : Gm} {Ret : Option Value → Wd → Prop} {o0 o1 o2 o3 : Option Value} {w : Wd} (kr : Ret (some (vI 1)) w) : G Γ m_X7_hall Ret 0 0 66 [o0, o1, o2, o3] [] w := by
  refine G_const dX7_hall_66 ?_
  exact G_reti dX7_hall_67 trivial ⟨rfl, Nat.le_of_ble_eq_true rfl⟩ kr
theorem k_X7_left_0 {Γ : Gm} {Ret : Option Value → Wd → Prop} {a1 z1 : Int} {p0 : Nat} {w : Wd} (c1 : SpP Γ m_X7_in [vI a1, vI 0, vI 1] w z1) (kt : z1 ≠ 0 → G Γ m_X7_left Ret 0 0 11 [some (vR p0), some (vI a1), none, none] [] w) (kf : z1 = 0 → G Γ m_X7_left Ret 0 0 9 [some (vR p0), some (vI a1), none, none] [] w) (h2 : sm z1 := by omega) : G Γ m_X7_left Ret 0 0 0 [some (vR p0), some (vI a1), none, none] [] w := by
  refine G_iload_n dX7_left_0 rfl ?_
  refine G_const dX7_left_1 ?_
  refine G_const dX7_left_2 ?_
  refine G_SP (as := [vI a1, vI 0, vI 1]) (st := []) n0_X7_in dX7_left_3 ml_RX7_63 mc_X7_in rfl ⟨by decide, ⟨Nat.le_of_ble_eq_true rfl, Nat.le_of_ble_eq_true rfl⟩, Nat.le_of_ble_eq_true rfl⟩ c1 ?_
  exact G_if_ne dX7_left_6 (by decide) h2 kt kf
theorem k_X7_left_11 {Γ : Gm} {Ret : Option Value → Wd → Prop} {a1 : Int} {p0 : Nat} {o2 o3 : Option Value} {w : Wd} (km : G Γ m_X7_left Ret 0 0 15 [some (vR p0), some (vI a1), some (vI 0), some (vI 0)] [] w) : G Γ m_X7_left Ret 0 0 11 [some (vR p0), some (vI a1), o2, o3] [] w := by
  refine G_const dX7_left_11 ?_
  refine G_istore_n dX7_left_12 (by decide) rfl ?_
  refine G_const dX7_left_13 ?_
  refine G_istore_n dX7_left_14 (by decide) rfl ?_
  exact km
theorem k_X7_left_9 {Γ : Gm} {Ret : Option Value → Wd → Prop} {o0 o1 o2 o3 : Option Value} {w : Wd} (kr : Ret (some (vI (-1))) w) : G Γ m_X7_left Ret 0 0 9 [o0, o1, o2, o3] [] w := by
  refine G_const dX7_left_9 ?_
  exact G_reti dX7_left_10 trivial ⟨rfl, Nat.le_of_ble_eq_true rfl⟩ kr
theorem k_X7_left_15 {Γ : Gm} {Ret : Option Value → Wd → Prop} {a1 a2 a3 : Int} {p0 q1 n2 : Nat} {w : Wd} (kt : (wI w q1 0) ≤ a3 → G Γ m_X7_left Ret 0 0 59 [some (vR p0), some (vI a1), some (vI a2), some (vI a3)] [] w) (kf : ¬ ((wI w q1 0) ≤ a3) → G Γ m_X7_left Ret 0 0 25 [some (vR p0), some (vI a1), some (vI a2), some (vI a3)] [] w) (h1 : sh w p0 = some (.inr 7) := by assumption) (h2 : wR w p0 14 = vR q1 := by assumption) (h3 : sh w q1 = some (.inl (0, n2)) := by assumption) (h4 : (0 : Int) ≤ 0 ∧ 0 < (n2 : Int) := by omega) (h5 : n2 < 2147483648 := by omega) (h6 : sm a3 := by omega) (h7 : sm (wI w q1 0) := by omega) : G Γ m_X7_left Ret 0 0 15 [some (vR p0), some (vI a1), some (vI a2), some (vI a3)] [] w := by
  refine G_iload_n dX7_left_15 rfl ?_
  refine G_aload_n dX7_left_16 rfl ?_
  refine G_getR dX7_left_17 fl_RX7_31 h1 rfl h2 ?_
  refine G_const dX7_left_20 ?_
  refine G_iald dX7_left_21 h3 h4 h5 ?_
  exact G_icmp_ge dX7_left_22 (by decide) h6 h7 kt kf
theorem k_X7_left_59 {Γ : Gm} {Ret : Option Value → Wd → Prop} {a1 a2 : Int} {p0 : Nat} {o3 : Option Value} {w : Wd} (kt : a1 ≠ 0 → G Γ m_X7_left Ret 0 0 67 [some (vR p0), some (vI a1), some (vI a2), o3] [] w) (kf : a1 = 0 → G Γ m_X7_left Ret 0 0 63 [some (vR p0), some (vI a1), some (vI a2), o3] [] w) (h1 : sm a1 := by omega) : G Γ m_X7_left Ret 0 0 59 [some (vR p0), some (vI a1), some (vI a2), o3] [] w := by
  refine G_iload_n dX7_left_59 rfl ?_
  exact G_if_ne dX7_left_60 (by decide) h1 kt kf
theorem k_X7_left_25 {Γ : Gm} {Ret : Option Value → Wd → Prop} {a1 a2 a3 : Int} {p0 q1 q3 n2 n4 : Nat} {w : Wd} (km : G Γ m_X7_left Ret 0 0 15 [some (vR p0), some (vI a1), some (vI (a2 + (((wI w q1 0) - (wI w q3 (1 + a3))) * (wI w q3 (13 + a3))))), some (vI (a3 + 1))] [] w) (h1 : sh w p0 = some (.inr 7) := by assumption) (h2 : wR w p0 13 = vR q1 := by assumption) (h3 : sh w q1 = some (.inl (0, n2)) := by assumption) (h4 : (0 : Int) ≤ 0 ∧ 0 < (n2 : Int) := by omega) (h5 : n2 < 2147483648 := by omega) (h6 : wR w p0 14 = vR q3 := by assumption) (h7 : sh w q3 = some (.inl (0, n4)) := by assumption) (h8 : (0 : Int) ≤ (1 + a3) ∧ (1 + a3) < (n4 : Int) := by omega) (h9 : n4 < 2147483648 := by omega) (h10 : (0 : Int) ≤ (13 + a3) ∧ (13 + a3) < (n4 : Int) := by omega) : G Γ m_X7_left Ret 0 0 25 [some (vR p0), some (vI a1), some (vI a2), some (vI a3)] [] w := by
  refine G_iload_n dX7_left_25 rfl ?_
  refine G_aload_n dX7_left_26 rfl ?_
  refine G_getR dX7_left_27 fl_RX7_28 h1 rfl h2 ?_
  refine G_const dX7_left_30 ?_
  refine G_iald dX7_left_31 h3 h4 h5 ?_
  refine G_aload_n dX7_left_32 rfl ?_
  refine G_getR dX7_left_33 fl_RX7_31 h1 rfl h6 ?_
  refine G_const dX7_left_36 ?_
  refine G_iload_n dX7_left_37 rfl ?_
  refine G_iadd dX7_left_38 ?_
  refine G_iald dX7_left_39 h7 h8 h9 ?_
  refine G_isub dX7_left_40 ?_
  refine G_aload_n dX7_left_41 rfl ?_
  refine G_getR dX7_left_42 fl_RX7_31 h1 rfl h6 ?_
  refine G_bipush dX7_left_45 (by decide +kernel) ?_
  refine G_iload_n dX7_left_47 rfl ?_
  refine G_iadd dX7_left_48 ?_
  refine G_iald dX7_left_49 h7 h10 h9 ?_
  refine G_imul dX7_left_50 ?_
  refine G_iadd dX7_left_51 ?_
  refine G_istore_n dX7_left_52 (by decide) rfl ?_
  refine G_iinc dX7_left_53 (by decide) rfl rfl ?_
  refine G_goto dX7_left_56 (tgt := 15) (by decide) ?_
  exact km
theorem k_X7_left_67 {Γ : Gm} {Ret : Option Value → Wd → Prop} {z4 : Int} {p0 q1 q3 n2 : Nat} {o1 o2 o3 : Option Value} {w : Wd} (c7 : SpP Γ m_X7_rollIn [vR p0, vR q3] w z4) (kr : Ret (some (vI ((wI w q1 0) * z4))) w) (h1 : sh w p0 = some (.inr 7) := by assumption) (h2 : wR w p0 13 = vR q1 := by assumption) (h3 : sh w q1 = some (.inl (0, n2)) := by assumption) (h4 : (0 : Int) ≤ 0 ∧ 0 < (n2 : Int) := by omega) (h5 : n2 < 2147483648 := by omega) (h6 : wR w p0 14 = vR q3 := by assumption) : G Γ m_X7_left Ret 0 0 67 [some (vR p0), o1, o2, o3] [] w := by
  refine G_aload_n dX7_left_67 rfl ?_
  refine G_getR dX7_left_68 fl_RX7_28 h1 rfl h2 ?_
  refine G_const dX7_left_71 ?_
  refine G_iald dX7_left_72 h3 h4 h5 ?_
  refine G_aload_n dX7_left_73 rfl ?_
  refine G_aload_n dX7_left_74 rfl ?_
  refine G_getR dX7_left_75 fl_RX7_31 h1 rfl h6 ?_
  refine G_VP (as := [vR q3]) (st := [vI (wI w q1 0)]) n0_X7_rollIn dX7_left_78 ml_RX7_145 mc_X7_rollIn rfl ⟨by decide, ⟨Nat.le_of_ble_eq_true rfl, Nat.le_of_ble_eq_true rfl⟩, Nat.le_of_ble_eq_true rfl⟩ h1 ⟨_, _, rfl⟩ c7 ?_
  refine G_imul dX7_left_81 ?_
  exact G_reti dX7_left_82 trivial ⟨rfl, Nat.le_of_ble_eq_true rfl⟩ kr
theorem k_X7_left_63 {Γ : Gm} {Ret : Option Value → Wd → Prop} {a2 : Int} {o0 o1 o3 : Option Value} {w : Wd} (kr : Ret (some (vI a2)) w) : G Γ m_X7_left Ret 0 0 63 [o0, o1, some (vI a2), o3] [] w := by
  refine G_iload_n dX7_left_63 rfl ?_
  refine G_goto dX7_left_64 (tgt := 82) (by decide) ?_
  exact G_reti dX7_left_82 trivial ⟨rfl, Nat.le_of_ble_eq_true rfl⟩ kr
theorem k_X7_likely_0 {Γ : Gm} {Ret : Option Value → Wd → Prop} {a1 a2 a3 a4 z1 : Int} {p0 : Nat} {w : Wd} (c1 : SpP Γ m_X7_in [vI a1, vI 0, vI 3] w z1) (kt : z1 = 0 → G Γ m_X7_likely Ret 0 0 39 [some (vR p0), some (vI a1), some (vI a2), some (vI a3), some (vI a4), none, none, none, none, none, none] [] w) (kf : ¬ (z1 = 0) → G Γ m_X7_likely Ret 0 0 9 [some (vR p0), some (vI a1), some (vI a2), some (vI a3), some (vI a4), none, none, none, none, none, none] [] w) (h2 : sm z1 := by omega) : G Γ m_X7_likely Ret 0 0 0 [some (vR p0), some (vI a1), some (vI a2), some (vI a3), some (vI a4), none, none, none, none, none, none] [] w := by
  refine G_iload_n dX7_likely_0 rfl ?_
  refine G_const dX7_likely_1 ?_
  refine G_const dX7_likely_2 ?_
  refine G_SP (as := [vI a1, vI 0, vI 3]) (st := []) n0_X7_in dX7_likely_3 ml_RX7_63 mc_X7_in rfl ⟨by decide, ⟨Nat.le_of_ble_eq_true rfl, Nat.le_of_ble_eq_true rfl⟩, Nat.le_of_ble_eq_true rfl⟩ c1 ?_
  exact G_if_eq dX7_likely_6 (by decide) h2 kt kf
theorem k_X7_likely_39 {Γ : Gm} {Ret : Option Value → Wd → Prop} {o0 o1 o2 o3 o4 o5 o6 o7 o8 o9 o10 : Option Value} {w : Wd} (kr : Ret (some (vI (-1))) w) : G Γ m_X7_likely Ret 0 0 39 [o0, o1, o2, o3, o4, o5, o6, o7, o8, o9, o10] [] w := by
  refine G_const dX7_likely_39 ?_
  exact G_reti dX7_likely_40 trivial ⟨rfl, Nat.le_of_ble_eq_true rfl⟩ kr
theorem k_X7_likely_9 {Γ : Gm} {Ret : Option Value → Wd → Prop} {a1 a2 a3 a4 z1 : Int} {p0 : Nat} {o5 o6 o7 o8 o9 o10 : Option Value} {w : Wd} (c1 : SpP Γ m_X7_in [vI a2, vI 0, vI 6] w z1) (kt : z1 = 0 → G Γ m_X7_likely Ret 0 0 39 [some (vR p0), some (vI a1), some (vI a2), some (vI a3), some (vI a4), o5, o6, o7, o8, o9, o10] [] w) (kf : ¬ (z1 = 0) → G Γ m_X7_likely Ret 0 0 19 [some (vR p0), some (vI a1), some (vI a2), some (vI a3), some (vI a4), o5, o6, o7, o8, o9, o10] [] w) (h2 : sm z1 := by omega) : G Γ m_X7_likely Ret 0 0 9 [some (vR p0), some (vI a1), some (vI a2), some (vI a3), some (vI a4), o5, o6, o7, o8, o9, o10] [] w := by
  refine G_iload_n dX7_likely_9 rfl ?_
  refine G_const dX7_likely_10 ?_
  refine G_bipush dX7_likely_11 (by decide +kernel) ?_
  refine G_SP (as := [vI a2, vI 0, vI 6]) (st := []) n0_X7_in dX7_likely_13 ml_RX7_63 mc_X7_in rfl ⟨by decide, ⟨Nat.le_of_ble_eq_true rfl, Nat.le_of_ble_eq_true rfl⟩, Nat.le_of_ble_eq_true rfl⟩ c1 ?_
  exact G_if_eq dX7_likely_16 (by decide) h2 kt kf
theorem k_X7_likely_19 {Γ : Gm} {Ret : Option Value → Wd → Prop} {a1 a2 a3 a4 z1 : Int} {p0 : Nat} {o5 o6 o7 o8 o9 o10 : Option Value} {w : Wd} (c1 : SpP Γ m_X7_in [vI a3, vI 0, vI 10] w z1) (kt : z1 = 0 → G Γ m_X7_likely Ret 0 0 39 [some (vR p0), some (vI a1), some (vI a2), some (vI a3), some (vI a4), o5, o6, o7, o8, o9, o10] [] w) (kf : ¬ (z1 = 0) → G Γ m_X7_likely Ret 0 0 29 [some (vR p0), some (vI a1), some (vI a2), some (vI a3), some (vI a4), o5, o6, o7, o8, o9, o10] [] w) (h2 : sm z1 := by omega) : G Γ m_X7_likely Ret 0 0 19 [some (vR p0), some (vI a1), some (vI a2), some (vI a3), some (vI a4), o5, o6, o7, o8, o9, o10] [] w := by
  refine G_iload_n dX7_likely_19 rfl ?_
  refine G_const dX7_likely_20 ?_
  refine G_bipush dX7_likely_21 (by decide +kernel) ?_
  refine G_SP (as := [vI a3, vI 0, vI 10]) (st := []) n0_X7_in dX7_likely_23 ml_RX7_63 mc_X7_in rfl ⟨by decide, ⟨Nat.le_of_ble_eq_true rfl, Nat.le_of_ble_eq_true rfl⟩, Nat.le_of_ble_eq_true rfl⟩ c1 ?_
  exact G_if_eq dX7_likely_26 (by decide) h2 kt kf
theorem k_X7_likely_29 {Γ : Gm} {Ret : Option Value → Wd → Prop} {a1 a2 a3 a4 z1 : Int} {p0 : Nat} {o5 o6 o7 o8 o9 o10 : Option Value} {w : Wd} (c1 : SpP Γ m_X7_in [vI a4, vI 0, vI 1] w z1) (kt : z1 ≠ 0 → G Γ m_X7_likely Ret 0 0 41 [some (vR p0), some (vI a1), some (vI a2), some (vI a3), some (vI a4), o5, o6, o7, o8, o9, o10] [] w) (kf : z1 = 0 → G Γ m_X7_likely Ret 0 0 39 [some (vR p0), some (vI a1), some (vI a2), some (vI a3), some (vI a4), o5, o6, o7, o8, o9, o10] [] w) (h2 : sm z1 := by omega) : G Γ m_X7_likely Ret 0 0 29 [some (vR p0), some (vI a1), some (vI a2), some (vI a3), some (vI a4), o5, o6, o7, o8, o9, o10] [] w := by
  refine G_iload dX7_likely_29 rfl ?_
  refine G_const dX7_likely_31 ?_
  refine G_const dX7_likely_32 ?_
  refine G_SP (as := [vI a4, vI 0, vI 1]) (st := []) n0_X7_in dX7_likely_33 ml_RX7_63 mc_X7_in rfl ⟨by decide, ⟨Nat.le_of_ble_eq_true rfl, Nat.le_of_ble_eq_true rfl⟩, Nat.le_of_ble_eq_true rfl⟩ c1 ?_
  exact G_if_ne dX7_likely_36 (by decide) h2 kt kf
theorem k_X7_likely_41 {Γ : Gm} {Ret : Option Value → Wd → Prop} {a1 a2 a3 a4 z2 : Int} {p0 q1 : Nat} {o5 o6 o7 o8 o9 o10 : Option Value} {w : Wd} (c3 : SpP Γ m_X7_isHooked [vR q1, vI a1] w z2) (kt : z2 ≠ 0 → G Γ m_X7_likely Ret 0 0 55 [some (vR p0), some (vI a1), some (vI a2), some (vI a3), some (vI a4), o5, o6, o7, o8, o9, o10] [] w) (kf : z2 = 0 → G Γ m_X7_likely Ret 0 0 52 [some (vR p0), some (vI a1), some (vI a2), some (vI a3), some (vI a4), o5, o6, o7, o8, o9, o10] [] w) (h1 : sh w p0 = some (.inr 7) := by assumption) (h2 : wR w p0 14 = vR q1 := by assumption) (h4 : sm z2 := by omega) : G Γ m_X7_likely Ret 0 0 41 [some (vR p0), some (vI a1), some (vI a2), some (vI a3), some (vI a4), o5, o6, o7, o8, o9, o10] [] w := by
  refine G_aload_n dX7_likely_41 rfl ?_
  refine G_getR dX7_likely_42 fl_RX7_31 h1 rfl h2 ?_
  refine G_iload_n dX7_likely_45 rfl ?_
  refine G_SP (as := [vR q1, vI a1]) (st := []) n0_X7_isHooked dX7_likely_46 ml_RX7_130 mc_X7_isHooked rfl ⟨by decide, ⟨Nat.le_of_ble_eq_true rfl, Nat.le_of_ble_eq_true rfl⟩, Nat.le_of_ble_eq_true rfl⟩ c3 ?_
  exact G_if_ne dX7_likely_49 (by decide) h4 kt kf
theorem k_X7_likely_55 {Γ : Gm} {Ret : Option Value → Wd → Prop} {a1 a2 a3 a4 : Int} {p0 : Nat} {o5 o6 o7 o8 o9 o10 : Option Value} {w : Wd} (km : G Γ m_X7_likely Ret 0 0 64 [some (vR p0), some (vI a1), some (vI a2), some (vI a3), some (vI a4), some (vI 0), some (vI 1), some (vI 0), o8, o9, o10] [] w) : G Γ m_X7_likely Ret 0 0 55 [some (vR p0), some (vI a1), some (vI a2), some (vI a3), some (vI a4), o5, o6, o7, o8, o9, o10] [] w := by
  refine G_const dX7_likely_55 ?_
  refine G_istore dX7_likely_56 (by decide) rfl ?_
  refine G_const dX7_likely_58 ?_
  refine G_istore dX7_likely_59 (by decide) rfl ?_
  refine G_const dX7_likely_61 ?_
  refine G_istore dX7_likely_62 (by decide) rfl ?_
  exact km
theorem k_X7_likely_52 {Γ : Gm} {Ret : Option Value → Wd → Prop} {o0 o1 o2 o3 o4 o5 o6 o7 o8 o9 o10 : Option Value} {w : Wd} (kr : Ret (some (vI (-2))) w) : G Γ m_X7_likely Ret 0 0 52 [o0, o1, o2, o3, o4, o5, o6, o7, o8, o9, o10] [] w := by
  refine G_bipush dX7_likely_52 (by decide +kernel) ?_
  exact G_reti dX7_likely_54 trivial ⟨rfl, Nat.le_of_ble_eq_true rfl⟩ kr
theorem k_X7_likely_64 {Γ : Gm} {Ret : Option Value → Wd → Prop} {a1 a2 a3 a4 a5 a6 a7 : Int} {p0 : Nat} {o8 o9 o10 : Option Value} {w : Wd} (kt : a2 ≤ a7 → G Γ m_X7_likely Ret 0 0 83 [some (vR p0), some (vI a1), some (vI a2), some (vI a3), some (vI a4), some (vI a5), some (vI a6), some (vI a7), o8, o9, o10] [] w) (kf : ¬ (a2 ≤ a7) → G Γ m_X7_likely Ret 0 0 70 [some (vR p0), some (vI a1), some (vI a2), some (vI a3), some (vI a4), some (vI a5), some (vI a6), some (vI a7), o8, o9, o10] [] w) (h1 : sm a7 := by omega) (h2 : sm a2 := by omega) : G Γ m_X7_likely Ret 0 0 64 [some (vR p0), some (vI a1), some (vI a2), some (vI a3), some (vI a4), some (vI a5), some (vI a6), some (vI a7), o8, o9, o10] [] w := by
  refine G_iload dX7_likely_64 rfl ?_
  refine G_iload_n dX7_likely_66 rfl ?_
  exact G_icmp_ge dX7_likely_67 (by decide) h1 h2 kt kf
theorem k_X7_likely_83 {Γ : Gm} {Ret : Option Value → Wd → Prop} {a1 a2 a3 a4 a5 a6 : Int} {p0 : Nat} {o7 o8 o9 o10 : Option Value} {w : Wd} (km : G Γ m_X7_likely Ret 0 0 86 [some (vR p0), some (vI a1), some (vI a2), some (vI a3), some (vI a4), some (vI a5), some (vI a6), some (vI 0), o8, o9, o10] [] w) : G Γ m_X7_likely Ret 0 0 83 [some (vR p0), some (vI a1), some (vI a2), some (vI a3), some (vI a4), some (vI a5), some (vI a6), o7, o8, o9, o10] [] w := by
  refine G_const dX7_likely_83 ?_
  refine G_istore dX7_likely_84 (by decide) rfl ?_
  exact km
theorem k_X7_likely_70 {Γ : Gm} {Ret : Option Value → Wd → Prop} {a1 a2 a3 a4 a5 a6 a7 : Int} {p0 : Nat} {o8 o9 o10 : Option Value} {w : Wd} (km : G Γ m_X7_likely Ret 0 0 64 [some (vR p0), some (vI a1), some (vI a2), some (vI a3), some (vI a4), some (vI a5), some (vI (a6 * 10)), some (vI (a7 + 1)), o8, o9, o10] [] w) : G Γ m_X7_likely Ret 0 0 70 [some (vR p0), some (vI a1), some (vI a2), some (vI a3), some (vI a4), some (vI a5), some (vI a6), some (vI a7), o8, o9, o10] [] w := by
  refine G_iload dX7_likely_70 rfl ?_
  refine G_bipush dX7_likely_72 (by decide +kernel) ?_
  refine G_imul dX7_likely_74 ?_
  refine G_istore dX7_likely_75 (by decide) rfl ?_
  refine G_iinc dX7_likely_77 (by decide) rfl rfl ?_
  refine G_goto dX7_likely_80 (tgt := 64) (by decide) ?_
  exact km
theorem k_X7_likely_86 {Γ : Gm} {Ret : Option Value → Wd → Prop} {a1 a2 a3 a4 a5 a6 a7 : Int} {p0 : Nat} {o8 o9 o10 : Option Value} {w : Wd} (kt : (zshl 1 a2) ≤ a7 → G Γ m_X7_likely Ret 0 0 189 [some (vR p0), some (vI a1), some (vI a2), some (vI a3), some (vI a4), some (vI a5), some (vI a6), some (vI a7), o8, o9, o10] [] w) (kf : ¬ ((zshl 1 a2) ≤ a7) → G Γ m_X7_likely Ret 0 0 94 [some (vR p0), some (vI a1), some (vI a2), some (vI a3), some (vI a4), some (vI a5), some (vI a6), some (vI a7), o8, o9, o10] [] w) (h1 : sm a7 := by omega) : G Γ m_X7_likely Ret 0 0 86 [some (vR p0), some (vI a1), some (vI a2), some (vI a3), some (vI a4), some (vI a5), some (vI a6), some (vI a7), o8, o9, o10] [] w := by
  refine G_iload dX7_likely_86 rfl ?_
  refine G_const dX7_likely_88 ?_
  refine G_iload_n dX7_likely_89 rfl ?_
  refine G_ishl dX7_likely_90 ?_
  exact G_icmp_ge dX7_likely_91 (by decide) h1 (sm_of _) kt kf
theorem k_X7_likely_189 {Γ : Gm} {Ret : Option Value → Wd → Prop} {a4 a5 a6 : Int} {o0 o1 o2 o3 o7 o8 o9 o10 : Option Value} {w : Wd} (km : G Γ m_X7_likely Ret 0 0 197 [o0, o1, o2, o3, some (vI a4), some (vI a5), some (vI a6), some (vI a5), some (vI a6), o9, o10] [] w) : G Γ m_X7_likely Ret 0 0 189 [o0, o1, o2, o3, some (vI a4), some (vI a5), some (vI a6), o7, o8, o9, o10] [] w := by
  refine G_iload dX7_likely_189 rfl ?_
  refine G_istore dX7_likely_191 (by decide) rfl ?_
  refine G_iload dX7_likely_193 rfl ?_
  refine G_istore dX7_likely_195 (by decide) rfl ?_
  exact km
theorem k_X7_likely_94 {Γ : Gm} {Ret : Option Value → Wd → Prop} {a1 a2 a3 a4 a5 a6 a7 : Int} {p0 q1 n2 : Nat} {o8 o9 o10 : Option Value} {w : Wd} (km : G Γ m_X7_likely Ret 0 0 111 [some (vR p0), some (vI a1), some (vI a2), some (vI a3), some (vI a4), some (vI a5), some (vI a6), some (vI a7), some (vI 1), some (vI (wI w q1 (25 + a1))), some (vI 0)] [] w) (h1 : sh w p0 = some (.inr 7) := by assumption) (h2 : wR w p0 14 = vR q1 := by assumption) (h3 : sh w q1 = some (.inl (0, n2)) := by assumption) (h4 : (0 : Int) ≤ (25 + a1) ∧ (25 + a1) < (n2 : Int) := by omega) (h5 : n2 < 2147483648 := by omega) : G Γ m_X7_likely Ret 0 0 94 [some (vR p0), some (vI a1), some (vI a2), some (vI a3), some (vI a4), some (vI a5), some (vI a6), some (vI a7), o8, o9, o10] [] w := by
  refine G_const dX7_likely_94 ?_
  refine G_istore dX7_likely_95 (by decide) rfl ?_
  refine G_aload_n dX7_likely_97 rfl ?_
  refine G_getR dX7_likely_98 fl_RX7_31 h1 rfl h2 ?_
  refine G_bipush dX7_likely_101 (by decide +kernel) ?_
  refine G_iload_n dX7_likely_103 rfl ?_
  refine G_iadd dX7_likely_104 ?_
  refine G_iald dX7_likely_105 h3 h4 h5 ?_
  refine G_istore dX7_likely_106 (by decide) rfl ?_
  refine G_const dX7_likely_108 ?_
  refine G_istore dX7_likely_109 (by decide) rfl ?_
  exact km
theorem k_X7_likely_197 {Γ : Gm} {Ret : Option Value → Wd → Prop} {a4 a5 a6 a7 a8 : Int} {o0 o1 o2 o3 o9 o10 : Option Value} {w : Wd} (kt : a8 ≤ 0 → G Γ m_X7_likely Ret 0 0 220 [o0, o1, o2, o3, some (vI a4), some (vI a5), some (vI a6), some (vI a7), some (vI a8), o9, o10] [] w) (kf : ¬ (a8 ≤ 0) → G Γ m_X7_likely Ret 0 0 202 [o0, o1, o2, o3, some (vI a4), some (vI a5), some (vI a6), some (vI a7), some (vI a8), o9, o10] [] w) (h1 : sm a8 := by omega) : G Γ m_X7_likely Ret 0 0 197 [o0, o1, o2, o3, some (vI a4), some (vI a5), some (vI a6), some (vI a7), some (vI a8), o9, o10] [] w := by
  refine G_iload dX7_likely_197 rfl ?_
  exact G_if_le dX7_likely_199 (by decide) h1 kt kf
theorem k_X7_likely_111 {Γ : Gm} {Ret : Option Value → Wd → Prop} {a1 a2 a3 a4 a5 a6 a7 a8 a9 a10 : Int} {p0 : Nat} {w : Wd} (kt : a2 ≤ a10 → G Γ m_X7_likely Ret 0 0 166 [some (vR p0), some (vI a1), some (vI a2), some (vI a3), some (vI a4), some (vI a5), some (vI a6), some (vI a7), some (vI a8), some (vI a9), some (vI a10)] [] w) (kf : ¬ (a2 ≤ a10) → G Γ m_X7_likely Ret 0 0 117 [some (vR p0), some (vI a1), some (vI a2), some (vI a3), some (vI a4), some (vI a5), some (vI a6), some (vI a7), some (vI a8), some (vI a9), some (vI a10)] [] w) (h1 : sm a10 := by omega) (h2 : sm a2 := by omega) : G Γ m_X7_likely Ret 0 0 111 [some (vR p0), some (vI a1), some (vI a2), some (vI a3), some (vI a4), some (vI a5), some (vI a6), some (vI a7), some (vI a8), some (vI a9), some (vI a10)] [] w := by
  refine G_iload dX7_likely_111 rfl ?_
  refine G_iload_n dX7_likely_113 rfl ?_
  exact G_icmp_ge dX7_likely_114 (by decide) h1 h2 kt kf
theorem k_X7_likely_220 {Γ : Gm} {Ret : Option Value → Wd → Prop} {a4 a5 a6 a7 : Int} {o0 o1 o2 o3 o8 o9 o10 : Option Value} {w : Wd} (kt : a4 ≠ 0 → G Γ m_X7_likely Ret 0 0 230 [o0, o1, o2, o3, some (vI a4), some (vI a5), some (vI a6), some (vI a7), o8, o9, o10] [] w) (kf : a4 = 0 → G Γ m_X7_likely Ret 0 0 225 [o0, o1, o2, o3, some (vI a4), some (vI a5), some (vI a6), some (vI a7), o8, o9, o10] [] w) (h1 : sm a4 := by omega) : G Γ m_X7_likely Ret 0 0 220 [o0, o1, o2, o3, some (vI a4), some (vI a5), some (vI a6), some (vI a7), o8, o9, o10] [] w := by
  refine G_iload dX7_likely_220 rfl ?_
  exact G_if_ne dX7_likely_222 (by decide) h1 kt kf
theorem k_X7_likely_202 {Γ : Gm} {Ret : Option Value → Wd → Prop} {a4 a5 a6 a7 a8 : Int} {o0 o1 o2 o3 o9 o10 : Option Value} {w : Wd} (km : G Γ m_X7_likely Ret 0 0 197 [o0, o1, o2, o3, some (vI a4), some (vI a5), some (vI a6), some (vI a8), some (vI (Int.tmod a7 a8)), some (vI (Int.tmod a7 a8)), o10] [] w) (h1 : sm a7 := by omega) (h2 : sm a8 := by omega) (h3 : a8 ≠ 0 := by omega) (h4 : a8 ≠ -1 := by omega) : G Γ m_X7_likely Ret 0 0 202 [o0, o1, o2, o3, some (vI a4), some (vI a5), some (vI a6), some (vI a7), some (vI a8), o9, o10] [] w := by
  refine G_iload dX7_likely_202 rfl ?_
  refine G_iload dX7_likely_204 rfl ?_
  refine G_irem dX7_likely_206 h1 h2 h3 h4 ?_
  refine G_istore dX7_likely_207 (by decide) rfl ?_
  refine G_iload dX7_likely_209 rfl ?_
  refine G_istore dX7_likely_211 (by decide) rfl ?_
  refine G_iload dX7_likely_213 rfl ?_
  refine G_istore dX7_likely_215 (by decide) rfl ?_
  refine G_goto dX7_likely_217 (tgt := 197) (by decide) ?_
  exact km
theorem k_X7_likely_166 {Γ : Gm} {Ret : Option Value → Wd → Prop} {a1 a2 a3 a4 a5 a6 a7 a8 a9 : Int} {p0 : Nat} {o10 : Option Value} {w : Wd} (kt : 2 ≤ a9 → G Γ m_X7_likely Ret 0 0 179 [some (vR p0), some (vI a1), some (vI a2), some (vI a3), some (vI a4), some (vI a5), some (vI a6), some (vI a7), some (vI a8), some (vI a9), o10] [vI a5] w) (kf : ¬ (2 ≤ a9) → G Γ m_X7_likely Ret 0 0 174 [some (vR p0), some (vI a1), some (vI a2), some (vI a3), some (vI a4), some (vI a5), some (vI a6), some (vI a7), some (vI a8), some (vI a9), o10] [vI a5] w) (h1 : sm a9 := by omega) : G Γ m_X7_likely Ret 0 0 166 [some (vR p0), some (vI a1), some (vI a2), some (vI a3), some (vI a4), some (vI a5), some (vI a6), some (vI a7), some (vI a8), some (vI a9), o10] [] w := by
  refine G_iload dX7_likely_166 rfl ?_
  refine G_iload dX7_likely_168 rfl ?_
  refine G_const dX7_likely_170 ?_
  exact G_icmp_ge dX7_likely_171 (by decide) h1 (by decide) kt kf
theorem k_X7_likely_117 {Γ : Gm} {Ret : Option Value → Wd → Prop} {a1 a2 a3 a4 a5 a6 a7 a8 a9 a10 z1 : Int} {p0 : Nat} {w : Wd} (c1 : SpP Γ m_X7_has [vI a7, vI a10] w z1) (kt : z1 = 0 → G Γ m_X7_likely Ret 0 0 133 [some (vR p0), some (vI a1), some (vI a2), some (vI a3), some (vI a4), some (vI a5), some (vI a6), some (vI a7), some (vI a8), some (vI a9), some (vI a10)] [vI a8] w) (kf : ¬ (z1 = 0) → G Γ m_X7_likely Ret 0 0 129 [some (vR p0), some (vI a1), some (vI a2), some (vI a3), some (vI a4), some (vI a5), some (vI a6), some (vI a7), some (vI a8), some (vI a9), some (vI a10)] [vI a8] w) (h2 : sm z1 := by omega) : G Γ m_X7_likely Ret 0 0 117 [some (vR p0), some (vI a1), some (vI a2), some (vI a3), some (vI a4), some (vI a5), some (vI a6), some (vI a7), some (vI a8), some (vI a9), some (vI a10)] [] w := by
  refine G_iload dX7_likely_117 rfl ?_
  refine G_iload dX7_likely_119 rfl ?_
  refine G_iload dX7_likely_121 rfl ?_
  refine G_SP (as := [vI a7, vI a10]) (st := [vI a8]) n0_X7_has dX7_likely_123 ml_RX7_126 mc_X7_has rfl ⟨by decide, ⟨Nat.le_of_ble_eq_true rfl, Nat.le_of_ble_eq_true rfl⟩, Nat.le_of_ble_eq_true rfl⟩ c1 ?_
  exact G_if_eq dX7_likely_126 (by decide) h2 kt kf
theorem k_X7_likely_230 {Γ : Gm} {Ret : Option Value → Wd → Prop} {a6 a7 : Int} {o0 o1 o2 o3 o4 o5 o8 o9 o10 : Option Value} {w : Wd} (kr : Ret (some (vI (Int.tdiv a6 a7))) w) (h1 : sm a6 := by omega) (h2 : sm a7 := by omega) (h3 : a7 ≠ 0 := by omega) (h4 : a7 ≠ -1 := by omega) : G Γ m_X7_likely Ret 0 0 230 [o0, o1, o2, o3, o4, o5, some (vI a6), some (vI a7), o8, o9, o10] [] w := by
  refine G_iload dX7_likely_230 rfl ?_
  refine G_iload dX7_likely_232 rfl ?_
  refine G_idiv dX7_likely_234 h1 h2 h3 h4 ?_
  exact G_reti dX7_likely_235 trivial ⟨rfl, Nat.le_of_ble_eq_true rfl⟩ kr
theorem k_X7_likely_225 {Γ : Gm} {Ret : Option Value → Wd → Prop} {a5 a7 : Int} {o0 o1 o2 o3 o4 o6 o8 o9 o10 : Option Value} {w : Wd} (kr : Ret (some (vI (Int.tdiv a5 a7))) w) (h1 : sm a5 := by omega) (h2 : sm a7 := by omega) (h3 : a7 ≠ 0 := by omega) (h4 : a7 ≠ -1 := by omega) : G Γ m_X7_likely Ret 0 0 225 [o0, o1, o2, o3, o4, some (vI a5), o6, some (vI a7), o8, o9, o10] [] w := by
  refine G_iload dX7_likely_225 rfl ?_
  refine G_goto dX7_likely_227 (tgt := 232) (by decide) ?_
  refine G_iload dX7_likely_232 rfl ?_
  refine G_idiv dX7_likely_234 h1 h2 h3 h4 ?_
  exact G_reti dX7_likely_235 trivial ⟨rfl, Nat.le_of_ble_eq_true rfl⟩ kr
theorem k_X7_likely_179 {Γ : Gm} {Ret : Option Value → Wd → Prop} {a1 a2 a3 a4 a6 a7 s0 : Int} {p0 : Nat} {o5 o8 o9 o10 : Option Value} {w : Wd} (km : G Γ m_X7_likely Ret 0 0 86 [some (vR p0), some (vI a1), some (vI a2), some (vI a3), some (vI a4), some (vI (s0 + 0)), some (vI a6), some (vI (a7 + 1)), o8, o9, o10] [] w) : G Γ m_X7_likely Ret 0 0 179 [some (vR p0), some (vI a1), some (vI a2), some (vI a3), some (vI a4), o5, some (vI a6), some (vI a7), o8, o9, o10] [vI s0] w := by
  refine G_const dX7_likely_179 ?_
  refine G_iadd dX7_likely_180 ?_
  refine G_istore dX7_likely_181 (by decide) rfl ?_
  refine G_iinc dX7_likely_183 (by decide) rfl rfl ?_
  refine G_goto dX7_likely_186 (tgt := 86) (by decide) ?_
  exact km
theorem k_X7_likely_174 {Γ : Gm} {Ret : Option Value → Wd → Prop} {a1 a2 a3 a4 a6 a7 a8 s0 : Int} {p0 : Nat} {o5 o9 o10 : Option Value} {w : Wd} (km : G Γ m_X7_likely Ret 0 0 86 [some (vR p0), some (vI a1), some (vI a2), some (vI a3), some (vI a4), some (vI (s0 + a8)), some (vI a6), some (vI (a7 + 1)), some (vI a8), o9, o10] [] w) : G Γ m_X7_likely Ret 0 0 174 [some (vR p0), some (vI a1), some (vI a2), some (vI a3), some (vI a4), o5, some (vI a6), some (vI a7), some (vI a8), o9, o10] [vI s0] w := by
  refine G_iload dX7_likely_174 rfl ?_
  refine G_goto dX7_likely_176 (tgt := 180) (by decide) ?_
  refine G_iadd dX7_likely_180 ?_
  refine G_istore dX7_likely_181 (by decide) rfl ?_
  refine G_iinc dX7_likely_183 (by decide) rfl rfl ?_
  refine G_goto dX7_likely_186 (tgt := 86) (by decide) ?_
  exact km
theorem k_X7_likely_133 {Γ : Gm} {Ret : Option Value → Wd → Prop} {a1 a2 a3 a4 a5 a6 a7 a9 a10 s0 z1 : Int} {p0 : Nat} {o8 : Option Value} {w : Wd} (c1 : SpP Γ m_X7_has [vI a7, vI a10] w z1) (kt : z1 = 0 → G Γ m_X7_likely Ret 0 0 156 [some (vR p0), some (vI a1), some (vI a2), some (vI a3), some (vI a4), some (vI a5), some (vI a6), some (vI a7), some (vI (s0 * (10 - a3))), some (vI a9), some (vI a10)] [vI a9] w) (kf : ¬ (z1 = 0) → G Γ m_X7_likely Ret 0 0 152 [some (vR p0), some (vI a1), some (vI a2), some (vI a3), some (vI a4), some (vI a5), some (vI a6), some (vI a7), some (vI (s0 * (10 - a3))), some (vI a9), some (vI a10)] [vI a9] w) (h2 : sm z1 := by omega) : G Γ m_X7_likely Ret 0 0 133 [some (vR p0), some (vI a1), some (vI a2), some (vI a3), some (vI a4), some (vI a5), some (vI a6), some (vI a7), o8, some (vI a9), some (vI a10)] [vI s0] w := by
  refine G_bipush dX7_likely_133 (by decide +kernel) ?_
  refine G_iload_n dX7_likely_135 rfl ?_
  refine G_isub dX7_likely_136 ?_
  refine G_imul dX7_likely_137 ?_
  refine G_istore dX7_likely_138 (by decide) rfl ?_
  refine G_iload dX7_likely_140 rfl ?_
  refine G_iload dX7_likely_142 rfl ?_
  refine G_iload dX7_likely_144 rfl ?_
  refine G_SP (as := [vI a7, vI a10]) (st := [vI a9]) n0_X7_has dX7_likely_146 ml_RX7_126 mc_X7_has rfl ⟨by decide, ⟨Nat.le_of_ble_eq_true rfl, Nat.le_of_ble_eq_true rfl⟩, Nat.le_of_ble_eq_true rfl⟩ c1 ?_
  exact G_if_eq dX7_likely_149 (by decide) h2 kt kf
theorem k_X7_likely_129 {Γ : Gm} {Ret : Option Value → Wd → Prop} {a1 a2 a3 a4 a5 a6 a7 a9 a10 s0 z1 : Int} {p0 : Nat} {o8 : Option Value} {w : Wd} (c1 : SpP Γ m_X7_has [vI a7, vI a10] w z1) (kt : z1 = 0 → G Γ m_X7_likely Ret 0 0 156 [some (vR p0), some (vI a1), some (vI a2), some (vI a3), some (vI a4), some (vI a5), some (vI a6), some (vI a7), some (vI (s0 * a3)), some (vI a9), some (vI a10)] [vI a9] w) (kf : ¬ (z1 = 0) → G Γ m_X7_likely Ret 0 0 152 [some (vR p0), some (vI a1), some (vI a2), some (vI a3), some (vI a4), some (vI a5), some (vI a6), some (vI a7), some (vI (s0 * a3)), some (vI a9), some (vI a10)] [vI a9] w) (h2 : sm z1 := by omega) : G Γ m_X7_likely Ret 0 0 129 [some (vR p0), some (vI a1), some (vI a2), some (vI a3), some (vI a4), some (vI a5), some (vI a6), some (vI a7), o8, some (vI a9), some (vI a10)] [vI s0] w := by
  refine G_iload_n dX7_likely_129 rfl ?_
  refine G_goto dX7_likely_130 (tgt := 137) (by decide) ?_
  refine G_imul dX7_likely_137 ?_
  refine G_istore dX7_likely_138 (by decide) rfl ?_
  refine G_iload dX7_likely_140 rfl ?_
  refine G_iload dX7_likely_142 rfl ?_
  refine G_iload dX7_likely_144 rfl ?_
  refine G_SP (as := [vI a7, vI a10]) (st := [vI a9]) n0_X7_has dX7_likely_146 ml_RX7_126 mc_X7_has rfl ⟨by decide, ⟨Nat.le_of_ble_eq_true rfl, Nat.le_of_ble_eq_true rfl⟩, Nat.le_of_ble_eq_true rfl⟩ c1 ?_
  exact G_if_eq dX7_likely_149 (by decide) h2 kt kf
theorem k_X7_likely_156 {Γ : Gm} {Ret : Option Value → Wd → Prop} {a1 a2 a3 a4 a5 a6 a7 a8 a10 s0 : Int} {p0 : Nat} {o9 : Option Value} {w : Wd} (km : G Γ m_X7_likely Ret 0 0 111 [some (vR p0), some (vI a1), some (vI a2), some (vI a3), some (vI a4), some (vI a5), some (vI a6), some (vI a7), some (vI a8), some (vI (s0 - 0)), some (vI (a10 + 1))] [] w) : G Γ m_X7_likely Ret 0 0 156 [some (vR p0), some (vI a1), some (vI a2), some (vI a3), some (vI a4), some (vI a5), some (vI a6), some (vI a7), some (vI a8), o9, some (vI a10)] [vI s0] w := by
  refine G_const dX7_likely_156 ?_
  refine G_isub dX7_likely_157 ?_
  refine G_istore dX7_likely_158 (by decide) rfl ?_
  refine G_iinc dX7_likely_160 (by decide) rfl rfl ?_
  refine G_goto dX7_likely_163 (tgt := 111) (by decide) ?_
  exact km
theorem k_X7_likely_152 {Γ : Gm} {Ret : Option Value → Wd → Prop} {a1 a2 a3 a4 a5 a6 a7 a8 a10 s0 : Int} {p0 : Nat} {o9 : Option Value} {w : Wd} (km : G Γ m_X7_likely Ret 0 0 111 [some (vR p0), some (vI a1), some (vI a2), some (vI a3), some (vI a4), some (vI a5), some (vI a6), some (vI a7), some (vI a8), some (vI (s0 - 2)), some (vI (a10 + 1))] [] w) : G Γ m_X7_likely Ret 0 0 152 [some (vR p0), some (vI a1), some (vI a2), some (vI a3), some (vI a4), some (vI a5), some (vI a6), some (vI a7), some (vI a8), o9, some (vI a10)] [vI s0] w := by
  refine G_const dX7_likely_152 ?_
  refine G_goto dX7_likely_153 (tgt := 157) (by decide) ?_
  refine G_isub dX7_likely_157 ?_
  refine G_istore dX7_likely_158 (by decide) rfl ?_
  refine G_iinc dX7_likely_160 (by decide) rfl rfl ?_
  refine G_goto dX7_likely_163 (tgt := 111) (by decide) ?_
  exact km
theorem k_X7_year_0 {Γ : Gm} {Ret : Option Value → Wd → Prop} {a1 a2 a3 z1 : Int} {p0 : Nat} {w : Wd} (c1 : SpP Γ m_X7_in [vI a1, vI 0, vI 9999] w z1) (kt : z1 = 0 → G Γ m_X7_year Ret 0 0 30 [some (vR p0), some (vI a1), some (vI a2), some (vI a3), none, none, none, none, none] [] w) (kf : ¬ (z1 = 0) → G Γ m_X7_year Ret 0 0 11 [some (vR p0), some (vI a1), some (vI a2), some (vI a3), none, none, none, none, none] [] w) (h2 : sm z1 := by omega) : G Γ m_X7_year Ret 0 0 0 [some (vR p0), some (vI a1), some (vI a2), some (vI a3), none, none, none, none, none] [] w := by
  refine G_iload_n dX7_year_0 rfl ?_
  refine G_const dX7_year_1 ?_
  refine G_sipush dX7_year_2 (by decide +kernel) ?_
  refine G_SP (as := [vI a1, vI 0, vI 9999]) (st := []) n0_X7_in dX7_year_5 ml_RX7_63 mc_X7_in rfl ⟨by decide, ⟨Nat.le_of_ble_eq_true rfl, Nat.le_of_ble_eq_true rfl⟩, Nat.le_of_ble_eq_true rfl⟩ c1 ?_
  exact G_if_eq dX7_year_8 (by decide) h2 kt kf
theorem k_X7_year_30 {Γ : Gm} {Ret : Option Value → Wd → Prop} {o0 o1 o2 o3 o4 o5 o6 o7 o8 : Option Value} {w : Wd} (kr : Ret (some (vI (-1))) w) : G Γ m_X7_year Ret 0 0 30 [o0, o1, o2, o3, o4, o5, o6, o7, o8] [] w := by
  refine G_const dX7_year_30 ?_
  exact G_reti dX7_year_31 trivial ⟨rfl, Nat.le_of_ble_eq_true rfl⟩ kr
theorem k_X7_year_11 {Γ : Gm} {Ret : Option Value → Wd → Prop} {a1 a2 a3 z1 : Int} {p0 : Nat} {o4 o5 o6 o7 o8 : Option Value} {w : Wd} (c1 : SpP Γ m_X7_in [vI a2, vI 1, vI 40] w z1) (kt : z1 = 0 → G Γ m_X7_year Ret 0 0 30 [some (vR p0), some (vI a1), some (vI a2), some (vI a3), o4, o5, o6, o7, o8] [] w) (kf : ¬ (z1 = 0) → G Γ m_X7_year Ret 0 0 21 [some (vR p0), some (vI a1), some (vI a2), some (vI a3), o4, o5, o6, o7, o8] [] w) (h2 : sm z1 := by omega) : G Γ m_X7_year Ret 0 0 11 [some (vR p0), some (vI a1), some (vI a2), some (vI a3), o4, o5, o6, o7, o8] [] w := by
  refine G_iload_n dX7_year_11 rfl ?_
  refine G_const dX7_year_12 ?_
  refine G_bipush dX7_year_13 (by decide +kernel) ?_
  refine G_SP (as := [vI a2, vI 1, vI 40]) (st := []) n0_X7_in dX7_year_15 ml_RX7_63 mc_X7_in rfl ⟨by decide, ⟨Nat.le_of_ble_eq_true rfl, Nat.le_of_ble_eq_true rfl⟩, Nat.le_of_ble_eq_true rfl⟩ c1 ?_
  exact G_if_eq dX7_year_18 (by decide) h2 kt kf
theorem k_X7_year_21 {Γ : Gm} {Ret : Option Value → Wd → Prop} {a1 a2 a3 z1 : Int} {p0 : Nat} {o4 o5 o6 o7 o8 : Option Value} {w : Wd} (c1 : SpP Γ m_X7_in [vI a3, vI 0, vI 1] w z1) (kt : z1 ≠ 0 → G Γ m_X7_year Ret 0 0 32 [some (vR p0), some (vI a1), some (vI a2), some (vI a3), o4, o5, o6, o7, o8] [] w) (kf : z1 = 0 → G Γ m_X7_year Ret 0 0 30 [some (vR p0), some (vI a1), some (vI a2), some (vI a3), o4, o5, o6, o7, o8] [] w) (h2 : sm z1 := by omega) : G Γ m_X7_year Ret 0 0 21 [some (vR p0), some (vI a1), some (vI a2), some (vI a3), o4, o5, o6, o7, o8] [] w := by
  refine G_iload_n dX7_year_21 rfl ?_
  refine G_const dX7_year_22 ?_
  refine G_const dX7_year_23 ?_
  refine G_SP (as := [vI a3, vI 0, vI 1]) (st := []) n0_X7_in dX7_year_24 ml_RX7_63 mc_X7_in rfl ⟨by decide, ⟨Nat.le_of_ble_eq_true rfl, Nat.le_of_ble_eq_true rfl⟩, Nat.le_of_ble_eq_true rfl⟩ c1 ?_
  exact G_if_ne dX7_year_27 (by decide) h2 kt kf
theorem k_X7_year_32 {Γ : Gm} {Ret : Option Value → Wd → Prop} {a1 a2 a3 z1 : Int} {p0 : Nat} {o4 o5 o6 o7 o8 : Option Value} {w : Wd} (c2 : SpP Γ m_X7_isCovered [vR p0] w z1) (kt : z1 ≠ 0 → G Γ m_X7_year Ret 0 0 42 [some (vR p0), some (vI a1), some (vI a2), some (vI a3), o4, o5, o6, o7, o8] [] w) (kf : z1 = 0 → G Γ m_X7_year Ret 0 0 39 [some (vR p0), some (vI a1), some (vI a2), some (vI a3), o4, o5, o6, o7, o8] [] w) (h1 : sh w p0 = some (.inr 7) := by assumption) (h3 : sm z1 := by omega) : G Γ m_X7_year Ret 0 0 32 [some (vR p0), some (vI a1), some (vI a2), some (vI a3), o4, o5, o6, o7, o8] [] w := by
  refine G_aload_n dX7_year_32 rfl ?_
  refine G_VP (as := []) (st := []) n0_X7_isCovered dX7_year_33 ml_RX7_162 mc_X7_isCovered rfl ⟨by decide, ⟨Nat.le_of_ble_eq_true rfl, Nat.le_of_ble_eq_true rfl⟩, Nat.le_of_ble_eq_true rfl⟩ h1 ⟨_, _, rfl⟩ c2 ?_
  exact G_if_ne dX7_year_36 (by decide) h3 kt kf
theorem k_X7_year_42 {Γ : Gm} {Ret : Option Value → Wd → Prop} {a1 a2 a3 : Int} {p0 : Nat} {o4 o5 o6 o7 o8 : Option Value} {w : Wd} {Q : Wd → Prop} (c2 : SpV Γ m_X7_begin [vR p0] w Q) (kq : ∀ u : Wd, Q u → G Γ m_X7_year Ret 0 0 46 [some (vR p0), some (vI a1), some (vI a2), some (vI a3), o4, o5, o6, o7, o8] [] u) (h1 : sh w p0 = some (.inr 7) := by assumption) : G Γ m_X7_year Ret 0 0 42 [some (vR p0), some (vI a1), some (vI a2), some (vI a3), o4, o5, o6, o7, o8] [] w := by
  refine G_aload_n dX7_year_42 rfl ?_
  exact G_VV (as := []) (st := []) n0_X7_begin dX7_year_43 ml_RX7_205 mc_X7_begin rfl ⟨by decide, ⟨Nat.le_of_ble_eq_true rfl, Nat.le_of_ble_eq_true rfl⟩, Nat.le_of_ble_eq_true rfl⟩ h1 ⟨_, _, rfl⟩ c2 (fun u hq => kq u hq)
theorem k_X7_year_39 {Γ : Gm} {Ret : Option Value → Wd → Prop} {o0 o1 o2 o3 o4 o5 o6 o7 o8 : Option Value} {w : Wd} (kr : Ret (some (vI (-2))) w) : G Γ m_X7_year Ret 0 0 39 [o0, o1, o2, o3, o4, o5, o6, o7, o8] [] w := by
  refine G_bipush dX7_year_39 (by decide +kernel) ?_
  exact G_reti dX7_year_41 trivial ⟨rfl, Nat.le_of_ble_eq_true rfl⟩ kr
theorem k_X7_year_46 {Γ : Gm} {Ret : Option Value → Wd → Prop} {a1 a2 a3 : Int} {p0 : Nat} {o4 o5 o6 o7 o8 : Option Value} {w : Wd} (km : G Γ m_X7_year Ret 0 0 49 [some (vR p0), some (vI a1), some (vI a2), some (vI a3), some (vI 0), o5, o6, o7, o8] [] w) : G Γ m_X7_year Ret 0 0 46 [some (vR p0), some (vI a1), some (vI a2), some (vI a3), o4, o5, o6, o7, o8] [] w := by
  refine G_const dX7_year_46 ?_
  refine G_istore dX7_year_47 (by decide) rfl ?_
  exact km
theorem k_X7_year_49 {Γ : Gm} {Ret : Option Value → Wd → Prop} {a1 a2 a3 a4 : Int} {p0 : Nat} {o5 o6 o7 o8 : Option Value} {w : Wd} (kt : a2 ≤ a4 → G Γ m_X7_year Ret 0 0 183 [some (vR p0), some (vI a1), some (vI a2), some (vI a3), some (vI a4), o5, o6, o7, o8] [] w) (kf : ¬ (a2 ≤ a4) → G Γ m_X7_year Ret 0 0 55 [some (vR p0), some (vI a1), some (vI a2), some (vI a3), some (vI a4), o5, o6, o7, o8] [] w) (h1 : sm a4 := by omega) (h2 : sm a2 := by omega) : G Γ m_X7_year Ret 0 0 49 [some (vR p0), some (vI a1), some (vI a2), some (vI a3), some (vI a4), o5, o6, o7, o8] [] w := by
  refine G_iload dX7_year_49 rfl ?_
  refine G_iload_n dX7_year_51 rfl ?_
  exact G_icmp_ge dX7_year_52 (by decide) h1 h2 kt kf
theorem k_X7_year_183 {Γ : Gm} {Ret : Option Value → Wd → Prop} {a3 : Int} {p0 : Nat} {o1 o2 o4 o5 o6 o7 o8 : Option Value} {w : Wd} (km : G Γ m_X7_year Ret 0 0 189 [some (vR p0), o1, o2, some (vI a3), some (vI 0), some (vI 0), o6, o7, o8] [] w) : G Γ m_X7_year Ret 0 0 183 [some (vR p0), o1, o2, some (vI a3), o4, o5, o6, o7, o8] [] w := by
  refine G_const dX7_year_183 ?_
  refine G_istore dX7_year_184 (by decide) rfl ?_
  refine G_const dX7_year_186 ?_
  refine G_istore dX7_year_187 (by decide) rfl ?_
  exact km
theorem k_X7_year_55 {Γ : Gm} {Ret : Option Value → Wd → Prop} {a1 a2 a3 a4 z2 : Int} {p0 q1 : Nat} {o5 o6 o7 o8 : Option Value} {w : Wd} (c8 : SpP Γ m_X7_isHooked [vR q1, vI (Int.tmod (Int.tdiv (Int.tmod ((((7919 * a1) + (6151 * a4)) + 1) * (((7919 * a1) + (6151 * a4)) + 1)) 65521) 2) 4)] w z2) (kt : z2 = 0 → G Γ m_X7_year Ret 0 0 128 [some (vR p0), some (vI a1), some (vI a2), some (vI a3), some (vI a4), some (vL (((7919 * a1) + (6151 * a4)) + 1)), none, some (vI (Int.tdiv (Int.tmod ((((7919 * a1) + (6151 * a4)) + 1) * (((7919 * a1) + (6151 * a4)) + 1)) 65521) 2)), some (vI (Int.tmod (Int.tdiv (Int.tmod ((((7919 * a1) + (6151 * a4)) + 1) * (((7919 * a1) + (6151 * a4)) + 1)) 65521) 2) 4))] [] w) (kf : ¬ (z2 = 0) → G Γ m_X7_year Ret 0 0 107 [some (vR p0), some (vI a1), some (vI a2), some (vI a3), some (vI a4), some (vL (((7919 * a1) + (6151 * a4)) + 1)), none, some (vI (Int.tdiv (Int.tmod ((((7919 * a1) + (6151 * a4)) + 1) * (((7919 * a1) + (6151 * a4)) + 1)) 65521) 2)), some (vI (Int.tmod (Int.tdiv (Int.tmod ((((7919 * a1) + (6151 * a4)) + 1) * (((7919 * a1) + (6151 * a4)) + 1)) 65521) 2) 4))] [] w) (h1 : sm a1 := by omega) (h2 : sm a4 := by omega) (h3 : sm8 ((((7919 * a1) + (6151 * a4)) + 1) * (((7919 * a1) + (6151 * a4)) + 1)) := by omega) (h4 : sm8 (Int.tmod ((((7919 * a1) + (6151 * a4)) + 1) * (((7919 * a1) + (6151 * a4)) + 1)) 65521) := by omega) (h5 : sm (Int.tdiv (Int.tmod ((((7919 * a1) + (6151 * a4)) + 1) * (((7919 * a1) + (6151 * a4)) + 1)) 65521) 2) := by omega) (h6 : sh w p0 = some (.inr 7) := by assumption) (h7 : wR w p0 15 = vR q1 := by assumption) (h9 : sm z2 := by omega) : G Γ m_X7_year Ret 0 0 55 [some (vR p0), some (vI a1), some (vI a2), some (vI a3), some (vI a4), o5, o6, o7, o8] [] w := by
  refine G_ldc2 (n := 7919) dX7_year_55 tb_1073 ?_
  refine G_iload_n dX7_year_58 rfl ?_
  refine G_i2l dX7_year_59 h1 ?_
  refine G_lmul dX7_year_60 ?_
  refine G_ldc2 (n := 6151) dX7_year_61 tb_1074 ?_
  refine G_iload dX7_year_64 rfl ?_
  refine G_i2l dX7_year_66 h2 ?_
  refine G_lmul dX7_year_67 ?_
  refine G_ladd dX7_year_68 ?_
  refine G_lconst (n := 1) dX7_year_69 ?_
  refine G_ladd dX7_year_70 ?_
  refine G_lstore dX7_year_71 (by decide) rfl ?_
  refine G_lload dX7_year_73 rfl ?_
  refine G_lload dX7_year_75 rfl ?_
  refine G_lmul dX7_year_77 ?_
  refine G_ldc2 (n := 65521) dX7_year_78 tb_1075 ?_
  refine G_lrem dX7_year_81 h3 (by decide) (by decide) ?_
  refine G_ldc2 (n := 2) dX7_year_82 tb_1076 ?_
  refine G_ldiv dX7_year_85 h4 (by decide) (by decide) ?_
  refine G_l2i dX7_year_86 ?_
  refine G_istore dX7_year_87 (by decide) rfl ?_
  refine G_iload dX7_year_89 rfl ?_
  refine G_const dX7_year_91 ?_
  refine G_irem dX7_year_92 h5 (by decide) (by decide) (by decide) ?_
  refine G_istore dX7_year_93 (by decide) rfl ?_
  refine G_aload_n dX7_year_95 rfl ?_
  refine G_getR dX7_year_96 fl_RX7_34 h6 rfl h7 ?_
  refine G_iload dX7_year_99 rfl ?_
  refine G_SP (as := [vR q1, vI (Int.tmod (Int.tdiv (Int.tmod ((((7919 * a1) + (6151 * a4)) + 1) * (((7919 * a1) + (6151 * a4)) + 1)) 65521) 2) 4)]) (st := []) n0_X7_isHooked dX7_year_101 ml_RX7_130 mc_X7_isHooked rfl ⟨by decide, ⟨Nat.le_of_ble_eq_true rfl, Nat.le_of_ble_eq_true rfl⟩, Nat.le_of_ble_eq_true rfl⟩ c8 ?_
  exact G_if_eq dX7_year_104 (by decide) h9 kt kf
theorem k_X7_year_189 {Γ : Gm} {Ret : Option Value → Wd → Prop} {a3 a4 a5 : Int} {p0 : Nat} {o1 o2 o6 o7 o8 : Option Value} {w : Wd} (kt : 4 ≤ a5 → G Γ m_X7_year Ret 0 0 216 [some (vR p0), o1, o2, some (vI a3), some (vI a4), some (vI a5), o6, o7, o8] [] w) (kf : ¬ (4 ≤ a5) → G Γ m_X7_year Ret 0 0 195 [some (vR p0), o1, o2, some (vI a3), some (vI a4), some (vI a5), o6, o7, o8] [] w) (h1 : sm a5 := by omega) : G Γ m_X7_year Ret 0 0 189 [some (vR p0), o1, o2, some (vI a3), some (vI a4), some (vI a5), o6, o7, o8] [] w := by
  refine G_iload dX7_year_189 rfl ?_
  refine G_const dX7_year_191 ?_
  exact G_icmp_ge dX7_year_192 (by decide) h1 (by decide) kt kf
theorem k_X7_year_128 {Γ : Gm} {Ret : Option Value → Wd → Prop} {a1 a2 a3 a4 a7 a8 z2 : Int} {p0 q1 : Nat} {o5 o6 : Option Value} {w : Wd} (c3 : SpP Γ m_X7_isFree [vR q1, vI a8] w z2) (kt : z2 = 0 → G Γ m_X7_year Ret 0 0 158 [some (vR p0), some (vI a1), some (vI a2), some (vI a3), some (vI a4), o5, o6, some (vI a7), some (vI a8)] [] w) (kf : ¬ (z2 = 0) → G Γ m_X7_year Ret 0 0 140 [some (vR p0), some (vI a1), some (vI a2), some (vI a3), some (vI a4), o5, o6, some (vI a7), some (vI a8)] [] w) (h1 : sh w p0 = some (.inr 7) := by assumption) (h2 : wR w p0 15 = vR q1 := by assumption) (h4 : sm z2 := by omega) : G Γ m_X7_year Ret 0 0 128 [some (vR p0), some (vI a1), some (vI a2), some (vI a3), some (vI a4), o5, o6, some (vI a7), some (vI a8)] [] w := by
  refine G_aload_n dX7_year_128 rfl ?_
  refine G_getR dX7_year_129 fl_RX7_34 h1 rfl h2 ?_
  refine G_iload dX7_year_132 rfl ?_
  refine G_SP (as := [vR q1, vI a8]) (st := []) n0_X7_isFree dX7_year_134 ml_RX7_165 mc_X7_isFree rfl ⟨by decide, ⟨Nat.le_of_ble_eq_true rfl, Nat.le_of_ble_eq_true rfl⟩, Nat.le_of_ble_eq_true rfl⟩ c3 ?_
  exact G_if_eq dX7_year_137 (by decide) h4 kt kf
theorem k_X7_year_107 {Γ : Gm} {Ret : Option Value → Wd → Prop} {a1 a2 a3 a4 a7 a8 : Int} {p0 : Nat} {o5 o6 : Option Value} {w : Wd} (kt : (Int.tmod (Int.tdiv a7 4) 5) ≠ 0 → G Γ m_X7_year Ret 0 0 158 [some (vR p0), some (vI a1), some (vI a2), some (vI a3), some (vI a4), o5, o6, some (vI a7), some (vI a8)] [] w) (kf : (Int.tmod (Int.tdiv a7 4) 5) = 0 → G Γ m_X7_year Ret 0 0 116 [some (vR p0), some (vI a1), some (vI a2), some (vI a3), some (vI a4), o5, o6, some (vI a7), some (vI a8)] [] w) (h1 : sm a7 := by omega) (h2 : sm (Int.tdiv a7 4) := by omega) (h3 : sm (Int.tmod (Int.tdiv a7 4) 5) := by omega) : G Γ m_X7_year Ret 0 0 107 [some (vR p0), some (vI a1), some (vI a2), some (vI a3), some (vI a4), o5, o6, some (vI a7), some (vI a8)] [] w := by
  refine G_iload dX7_year_107 rfl ?_
  refine G_const dX7_year_109 ?_
  refine G_idiv dX7_year_110 h1 (by decide) (by decide) (by decide) ?_
  refine G_const dX7_year_111 ?_
  refine G_irem dX7_year_112 h2 (by decide) (by decide) (by decide) ?_
  exact G_if_ne dX7_year_113 (by decide) h3 kt kf
theorem k_X7_year_216 {Γ : Gm} {Ret : Option Value → Wd → Prop} {a3 a4 : Int} {p0 : Nat} {o1 o2 o5 o6 o7 o8 : Option Value} {w : Wd} (kt : a3 ≠ 0 → G Γ m_X7_year Ret 0 0 233 [some (vR p0), o1, o2, some (vI a3), some (vI a4), o5, o6, o7, o8] [] w) (kf : a3 = 0 → G Γ m_X7_year Ret 0 0 220 [some (vR p0), o1, o2, some (vI a3), some (vI a4), o5, o6, o7, o8] [] w) (h1 : sm a3 := by omega) : G Γ m_X7_year Ret 0 0 216 [some (vR p0), o1, o2, some (vI a3), some (vI a4), o5, o6, o7, o8] [] w := by
  refine G_iload_n dX7_year_216 rfl ?_
  exact G_if_ne dX7_year_217 (by decide) h1 kt kf
theorem k_X7_year_195 {Γ : Gm} {Ret : Option Value → Wd → Prop} {a3 a4 a5 : Int} {p0 q1 n2 : Nat} {o1 o2 o6 o7 o8 : Option Value} {w : Wd} (km : G Γ m_X7_year Ret 0 0 189 [some (vR p0), o1, o2, some (vI a3), some (vI (a4 + (wI w q1 (25 + a5)))), some (vI (a5 + 1)), o6, o7, o8] [] w) (h1 : sh w p0 = some (.inr 7) := by assumption) (h2 : wR w p0 15 = vR q1 := by assumption) (h3 : sh w q1 = some (.inl (0, n2)) := by assumption) (h4 : (0 : Int) ≤ (25 + a5) ∧ (25 + a5) < (n2 : Int) := by omega) (h5 : n2 < 2147483648 := by omega) : G Γ m_X7_year Ret 0 0 195 [some (vR p0), o1, o2, some (vI a3), some (vI a4), some (vI a5), o6, o7, o8] [] w := by
  refine G_iload dX7_year_195 rfl ?_
  refine G_aload_n dX7_year_197 rfl ?_
  refine G_getR dX7_year_198 fl_RX7_34 h1 rfl h2 ?_
  refine G_bipush dX7_year_201 (by decide +kernel) ?_
  refine G_iload dX7_year_203 rfl ?_
  refine G_iadd dX7_year_205 ?_
  refine G_iald dX7_year_206 h3 h4 h5 ?_
  refine G_iadd dX7_year_207 ?_
  refine G_istore dX7_year_208 (by decide) rfl ?_
  refine G_iinc dX7_year_210 (by decide) rfl rfl ?_
  refine G_goto dX7_year_213 (tgt := 189) (by decide) ?_
  exact km
theorem k_X7_year_158 {Γ : Gm} {Ret : Option Value → Wd → Prop} {a1 a2 a3 a4 a7 : Int} {p0 : Nat} {o5 o6 o8 : Option Value} {w : Wd} (kt : (Int.tmod (Int.tdiv a7 512) 3) ≠ 0 → G Γ m_X7_year Ret 0 0 177 [some (vR p0), some (vI a1), some (vI a2), some (vI a3), some (vI a4), o5, o6, some (vI a7), o8] [] w) (kf : (Int.tmod (Int.tdiv a7 512) 3) = 0 → G Γ m_X7_year Ret 0 0 169 [some (vR p0), some (vI a1), some (vI a2), some (vI a3), some (vI a4), o5, o6, some (vI a7), o8] [] w) (h1 : sm a7 := by omega) (h2 : sm (Int.tdiv a7 512) := by omega) (h3 : sm (Int.tmod (Int.tdiv a7 512) 3) := by omega) : G Γ m_X7_year Ret 0 0 158 [some (vR p0), some (vI a1), some (vI a2), some (vI a3), some (vI a4), o5, o6, some (vI a7), o8] [] w := by
  refine G_iload dX7_year_158 rfl ?_
  refine G_sipush dX7_year_160 (by decide +kernel) ?_
  refine G_idiv dX7_year_163 h1 (by decide) (by decide) (by decide) ?_
  refine G_const dX7_year_164 ?_
  refine G_irem dX7_year_165 h2 (by decide) (by decide) (by decide) ?_
  exact G_if_ne dX7_year_166 (by decide) h3 kt kf
theorem k_X7_year_140 {Γ : Gm} {Ret : Option Value → Wd → Prop} {a1 a2 a3 a4 a7 a8 : Int} {p0 q1 : Nat} {o5 o6 : Option Value} {w : Wd} {Q : Wd → Prop} (c5 : SpV Γ m_X7_kick [vR p0, vR q1, vI a8, vI (Int.tmod (Int.tdiv a7 32) 16)] w Q) (kq : ∀ u : Wd, Q u → G Γ m_X7_year Ret 0 0 158 [some (vR p0), some (vI a1), some (vI a2), some (vI a3), some (vI a4), o5, o6, some (vI a7), some (vI a8)] [] u) (h1 : sh w p0 = some (.inr 7) := by assumption) (h2 : wR w p0 15 = vR q1 := by assumption) (h3 : sm a7 := by omega) (h4 : sm (Int.tdiv a7 32) := by omega) : G Γ m_X7_year Ret 0 0 140 [some (vR p0), some (vI a1), some (vI a2), some (vI a3), some (vI a4), o5, o6, some (vI a7), some (vI a8)] [] w := by
  refine G_aload_n dX7_year_140 rfl ?_
  refine G_aload_n dX7_year_141 rfl ?_
  refine G_getR dX7_year_142 fl_RX7_34 h1 rfl h2 ?_
  refine G_iload dX7_year_145 rfl ?_
  refine G_iload dX7_year_147 rfl ?_
  refine G_bipush dX7_year_149 (by decide +kernel) ?_
  refine G_idiv dX7_year_151 h3 (by decide) (by decide) (by decide) ?_
  refine G_bipush dX7_year_152 (by decide +kernel) ?_
  refine G_irem dX7_year_154 h4 (by decide) (by decide) (by decide) ?_
  exact G_VV (as := [vR q1, vI a8, vI (Int.tmod (Int.tdiv a7 32) 16)]) (st := []) n0_X7_kick dX7_year_155 ml_RX7_168 mc_X7_kick rfl ⟨by decide, ⟨Nat.le_of_ble_eq_true rfl, Nat.le_of_ble_eq_true rfl⟩, Nat.le_of_ble_eq_true rfl⟩ h1 ⟨_, _, rfl⟩ c5 (fun u hq => kq u hq)
theorem k_X7_year_116 {Γ : Gm} {Ret : Option Value → Wd → Prop} {a1 a2 a3 a4 a7 a8 : Int} {p0 q1 : Nat} {o5 o6 : Option Value} {w : Wd} {Q : Wd → Prop} (c3 : SpV Γ m_X7_loosen [vR q1, vI a8] w Q) (kq : ∀ u : Wd, Q u → G Γ m_X7_year Ret 0 0 125 [some (vR p0), some (vI a1), some (vI a2), some (vI a3), some (vI a4), o5, o6, some (vI a7), some (vI a8)] [] u) (h1 : sh w p0 = some (.inr 7) := by assumption) (h2 : wR w p0 15 = vR q1 := by assumption) : G Γ m_X7_year Ret 0 0 116 [some (vR p0), some (vI a1), some (vI a2), some (vI a3), some (vI a4), o5, o6, some (vI a7), some (vI a8)] [] w := by
  refine G_aload_n dX7_year_116 rfl ?_
  refine G_getR dX7_year_117 fl_RX7_34 h1 rfl h2 ?_
  refine G_iload dX7_year_120 rfl ?_
  exact G_SV (as := [vR q1, vI a8]) (st := []) n0_X7_loosen dX7_year_122 ml_RX7_172 mc_X7_loosen rfl ⟨by decide, ⟨Nat.le_of_ble_eq_true rfl, Nat.le_of_ble_eq_true rfl⟩, Nat.le_of_ble_eq_true rfl⟩ c3 (fun u hq => kq u hq)
theorem k_X7_year_233 {Γ : Gm} {Ret : Option Value → Wd → Prop} {a4 : Int} {o0 o1 o2 o3 o5 o6 o7 o8 : Option Value} {w : Wd} (kr : Ret (some (vI a4)) w) : G Γ m_X7_year Ret 0 0 233 [o0, o1, o2, o3, some (vI a4), o5, o6, o7, o8] [] w := by
  refine G_iload dX7_year_233 rfl ?_
  exact G_reti dX7_year_235 trivial ⟨rfl, Nat.le_of_ble_eq_true rfl⟩ kr
theorem k_X7_year_220 {Γ : Gm} {Ret : Option Value → Wd → Prop} {z3 : Int} {p0 q1 n2 : Nat} {o1 o2 o3 o4 o5 o6 o7 o8 : Option Value} {w : Wd} (c6 : SpP Γ m_X7_bits [vI (wI w q1 30)] w z3) (kr : Ret (some (vI z3)) w) (h1 : sh w p0 = some (.inr 7) := by assumption) (h2 : wR w p0 15 = vR q1 := by assumption) (h3 : sh w q1 = some (.inl (0, n2)) := by assumption) (h4 : (0 : Int) ≤ 30 ∧ 30 < (n2 : Int) := by omega) (h5 : n2 < 2147483648 := by omega) : G Γ m_X7_year Ret 0 0 220 [some (vR p0), o1, o2, o3, o4, o5, o6, o7, o8] [] w := by
  refine G_aload_n dX7_year_220 rfl ?_
  refine G_getR dX7_year_221 fl_RX7_34 h1 rfl h2 ?_
  refine G_bipush dX7_year_224 (by decide +kernel) ?_
  refine G_iald dX7_year_226 h3 h4 h5 ?_
  refine G_SP (as := [vI (wI w q1 30)]) (st := []) n0_X7_bits dX7_year_227 ml_RX7_151 mc_X7_bits rfl ⟨by decide, ⟨Nat.le_of_ble_eq_true rfl, Nat.le_of_ble_eq_true rfl⟩, Nat.le_of_ble_eq_true rfl⟩ c6 ?_
  refine G_goto dX7_year_230 (tgt := 235) (by decide) ?_
  exact G_reti dX7_year_235 trivial ⟨rfl, Nat.le_of_ble_eq_true rfl⟩ kr
theorem k_X7_year_177 {Γ : Gm} {Ret : Option Value → Wd → Prop} {a1 a2 a3 a4 : Int} {p0 : Nat} {o5 o6 o7 o8 : Option Value} {w : Wd} (km : G Γ m_X7_year Ret 0 0 49 [some (vR p0), some (vI a1), some (vI a2), some (vI a3), some (vI (a4 + 1)), o5, o6, o7, o8] [] w) : G Γ m_X7_year Ret 0 0 177 [some (vR p0), some (vI a1), some (vI a2), some (vI a3), some (vI a4), o5, o6, o7, o8] [] w := by
  refine G_iinc dX7_year_177 (by decide) rfl rfl ?_
  refine G_goto dX7_year_180 (tgt := 49) (by decide) ?_
  exact km
theorem k_X7_year_169 {Γ : Gm} {Ret : Option Value → Wd → Prop} {a1 a2 a3 a4 : Int} {p0 q1 : Nat} {o5 o6 o7 o8 : Option Value} {w : Wd} {Q : Wd → Prop} (c3 : SpV Γ m_X7_passMonth [vR p0, vR q1] w Q) (kq : ∀ u : Wd, Q u → G Γ m_X7_year Ret 0 0 177 [some (vR p0), some (vI a1), some (vI a2), some (vI a3), some (vI a4), o5, o6, o7, o8] [] u) (h1 : sh w p0 = some (.inr 7) := by assumption) (h2 : wR w p0 15 = vR q1 := by assumption) : G Γ m_X7_year Ret 0 0 169 [some (vR p0), some (vI a1), some (vI a2), some (vI a3), some (vI a4), o5, o6, o7, o8] [] w := by
  refine G_aload_n dX7_year_169 rfl ?_
  refine G_aload_n dX7_year_170 rfl ?_
  refine G_getR dX7_year_171 fl_RX7_34 h1 rfl h2 ?_
  exact G_VV (as := [vR q1]) (st := []) n0_X7_passMonth dX7_year_174 ml_RX7_176 mc_X7_passMonth rfl ⟨by decide, ⟨Nat.le_of_ble_eq_true rfl, Nat.le_of_ble_eq_true rfl⟩, Nat.le_of_ble_eq_true rfl⟩ h1 ⟨_, _, rfl⟩ c3 (fun u hq => kq u hq)
theorem k_X7_year_125 {Γ : Gm} {Ret : Option Value → Wd → Prop} {a1 a2 a3 a4 a7 : Int} {p0 : Nat} {o5 o6 o8 : Option Value} {w : Wd} (kt : (Int.tmod (Int.tdiv a7 512) 3) ≠ 0 → G Γ m_X7_year Ret 0 0 177 [some (vR p0), some (vI a1), some (vI a2), some (vI a3), some (vI a4), o5, o6, some (vI a7), o8] [] w) (kf : (Int.tmod (Int.tdiv a7 512) 3) = 0 → G Γ m_X7_year Ret 0 0 169 [some (vR p0), some (vI a1), some (vI a2), some (vI a3), some (vI a4), o5, o6, some (vI a7), o8] [] w) (h1 : sm a7 := by omega) (h2 : sm (Int.tdiv a7 512) := by omega) (h3 : sm (Int.tmod (Int.tdiv a7 512) 3) := by omega) : G Γ m_X7_year Ret 0 0 125 [some (vR p0), some (vI a1), some (vI a2), some (vI a3), some (vI a4), o5, o6, some (vI a7), o8] [] w := by
  refine G_goto dX7_year_125 (tgt := 158) (by decide) ?_
  refine G_iload dX7_year_158 rfl ?_
  refine G_sipush dX7_year_160 (by decide +kernel) ?_
  refine G_idiv dX7_year_163 h1 (by decide) (by decide) (by decide) ?_
  refine G_const dX7_year_164 ?_
  refine G_irem dX7_year_165 h2 (by decide) (by decide) (by decide) ?_
  exact G_if_ne dX7_year_166 (by decide) h3 kt kf
theorem k_X7_keep_0 {Γ : Gm} {Ret : Option Value → Wd → Prop} {p0 : Nat} {w : Wd} (kt : (wI w p0 19) ≠ 2 → G Γ m_X7_keep Ret 0 0 11 [some (vR p0)] [] w) (kf : (wI w p0 19) = 2 → G Γ m_X7_keep Ret 0 0 8 [some (vR p0)] [] w) (h1 : sh w p0 = some (.inr 7) := by assumption) (h2 : sm (wI w p0 19) := by omega) : G Γ m_X7_keep Ret 0 0 0 [some (vR p0)] [] w := by
  refine G_aload_n dX7_keep_0 rfl ?_
  refine G_getI dX7_keep_1 fl_RX7_120 h1 rfl ?_
  refine G_const dX7_keep_4 ?_
  exact G_icmp_ne dX7_keep_5 (by decide) h2 (by decide) kt kf
theorem k_X7_keep_11 {Γ : Gm} {Ret : Option Value → Wd → Prop} {p0 q1 q2 : Nat} {w : Wd} {Q : Wd → Prop} (c4 : SpV Γ m_X7_bring [vR q1, vI 0, vR q2, vI (32 * (wI w p0 19)), vI 32] w Q) (kq : ∀ u : Wd, Q u → G Γ m_X7_keep Ret 0 0 32 [some (vR p0)] [] u) (h1 : sh w p0 = some (.inr 7) := by assumption) (h2 : wR w p0 14 = vR q1 := by assumption) (h3 : wR w p0 18 = vR q2 := by assumption) : G Γ m_X7_keep Ret 0 0 11 [some (vR p0)] [] w := by
  refine G_aload_n dX7_keep_11 rfl ?_
  refine G_getR dX7_keep_12 fl_RX7_31 h1 rfl h2 ?_
  refine G_const dX7_keep_15 ?_
  refine G_aload_n dX7_keep_16 rfl ?_
  refine G_getR dX7_keep_17 fl_RX7_40 h1 rfl h3 ?_
  refine G_bipush dX7_keep_20 (by decide +kernel) ?_
  refine G_aload_n dX7_keep_22 rfl ?_
  refine G_getI dX7_keep_23 fl_RX7_120 h1 rfl ?_
  refine G_imul dX7_keep_26 ?_
  refine G_bipush dX7_keep_27 (by decide +kernel) ?_
  exact G_SV (as := [vR q1, vI 0, vR q2, vI (32 * (wI w p0 19)), vI 32]) (st := []) n0_X7_bring dX7_keep_29 ml_RX7_110 mc_X7_bring rfl ⟨by decide, ⟨Nat.le_of_ble_eq_true rfl, Nat.le_of_ble_eq_true rfl⟩, Nat.le_of_ble_eq_true rfl⟩ c4 (fun u hq => kq u hq)
theorem k_X7_keep_8 {Γ : Gm} {Ret : Option Value → Wd → Prop} {o0 : Option Value} {w : Wd} (kr : Ret (some (vI (-3))) w) : G Γ m_X7_keep Ret 0 0 8 [o0] [] w := by
  refine G_bipush dX7_keep_8 (by decide +kernel) ?_
  exact G_reti dX7_keep_10 trivial ⟨rfl, Nat.le_of_ble_eq_true rfl⟩ kr
theorem k_X7_keep_32 {Γ : Gm} {Ret : Option Value → Wd → Prop} {p0 : Nat} {w : Wd} (kr : Ret (some (vI ((wI w p0 19) + 1))) (stI w p0 19 ((wI w p0 19) + 1))) (h1 : sh w p0 = some (.inr 7) := by assumption) : G Γ m_X7_keep Ret 0 0 32 [some (vR p0)] [] w := by
  refine G_aload_n dX7_keep_32 rfl ?_
  refine G_dup dX7_keep_33 rfl ?_
  refine G_getI dX7_keep_34 fl_RX7_120 h1 rfl ?_
  refine G_const dX7_keep_37 ?_
  refine G_iadd dX7_keep_38 ?_
  refine G_putI dX7_keep_39 fl_RX7_120 h1 rfl ?_
  refine G_aload_n dX7_keep_42 rfl ?_
  refine G_getI dX7_keep_43 fl_RX7_120 h1 rfl ?_
  rw [wI_hit]
  exact G_reti dX7_keep_46 trivial ⟨rfl, Nat.le_of_ble_eq_true rfl⟩ kr
theorem k_X7_back_0 {Γ : Gm} {Ret : Option Value → Wd → Prop} {p0 : Nat} {w : Wd} (kt : (wI w p0 19) ≠ 0 → G Γ m_X7_back Ret 0 0 10 [some (vR p0)] [] w) (kf : (wI w p0 19) = 0 → G Γ m_X7_back Ret 0 0 7 [some (vR p0)] [] w) (h1 : sh w p0 = some (.inr 7) := by assumption) (h2 : sm (wI w p0 19) := by omega) : G Γ m_X7_back Ret 0 0 0 [some (vR p0)] [] w := by
  refine G_aload_n dX7_back_0 rfl ?_
  refine G_getI dX7_back_1 fl_RX7_120 h1 rfl ?_
  exact G_if_ne dX7_back_4 (by decide) h2 kt kf
theorem k_X7_back_10 {Γ : Gm} {Ret : Option Value → Wd → Prop} {p0 q1 q2 : Nat} {w : Wd} {Q : Wd → Prop} (c4 : SpV Γ m_X7_bring [vR q1, vI (32 * ((wI w p0 19) - 1)), vR q2, vI 0, vI 32] (stI w p0 19 ((wI w p0 19) - 1)) Q) (kq : ∀ u : Wd, Q u → G Γ m_X7_back Ret 0 0 41 [some (vR p0)] [] u) (h1 : sh w p0 = some (.inr 7) := by assumption) (h2 : wR w p0 18 = vR q1 := by assumption) (h3 : wR w p0 14 = vR q2 := by assumption) : G Γ m_X7_back Ret 0 0 10 [some (vR p0)] [] w := by
  refine G_aload_n dX7_back_10 rfl ?_
  refine G_dup dX7_back_11 rfl ?_
  refine G_getI dX7_back_12 fl_RX7_120 h1 rfl ?_
  refine G_const dX7_back_15 ?_
  refine G_isub dX7_back_16 ?_
  refine G_putI dX7_back_17 fl_RX7_120 h1 rfl ?_
  refine G_aload_n dX7_back_20 rfl ?_
  refine G_getR dX7_back_21 fl_RX7_40 h1 rfl h2 ?_
  refine G_bipush dX7_back_24 (by decide +kernel) ?_
  refine G_aload_n dX7_back_26 rfl ?_
  refine G_getI dX7_back_27 fl_RX7_120 h1 rfl ?_
  rw [wI_hit]
  refine G_imul dX7_back_30 ?_
  refine G_aload_n dX7_back_31 rfl ?_
  refine G_getR dX7_back_32 fl_RX7_31 h1 rfl h3 ?_
  refine G_const dX7_back_35 ?_
  refine G_bipush dX7_back_36 (by decide +kernel) ?_
  exact G_SV (as := [vR q1, vI (32 * ((wI w p0 19) - 1)), vR q2, vI 0, vI 32]) (st := []) n0_X7_bring dX7_back_38 ml_RX7_110 mc_X7_bring rfl ⟨by decide, ⟨Nat.le_of_ble_eq_true rfl, Nat.le_of_ble_eq_true rfl⟩, Nat.le_of_ble_eq_true rfl⟩ c4 (fun u hq => kq u hq)
theorem k_X7_back_7 {Γ : Gm} {Ret : Option Value → Wd → Prop} {o0 : Option Value} {w : Wd} (kr : Ret (some (vI (-2))) w) : G Γ m_X7_back Ret 0 0 7 [o0] [] w := by
  refine G_bipush dX7_back_7 (by decide +kernel) ?_
  exact G_reti dX7_back_9 trivial ⟨rfl, Nat.le_of_ble_eq_true rfl⟩ kr
theorem k_X7_back_41 {Γ : Gm} {Ret : Option Value → Wd → Prop} {p0 : Nat} {w : Wd} (kr : Ret (some (vI (wI w p0 19))) (stI w p0 17 0)) (h1 : sh w p0 = some (.inr 7) := by assumption) : G Γ m_X7_back Ret 0 0 41 [some (vR p0)] [] w := by
  refine G_aload_n dX7_back_41 rfl ?_
  refine G_const dX7_back_42 ?_
  refine G_putI dX7_back_43 fl_RX7_117 h1 rfl ?_
  refine G_aload_n dX7_back_46 rfl ?_
  refine G_getI dX7_back_47 fl_RX7_120 h1 rfl ?_
  rw [wI_skip (by decide)]
  exact G_reti dX7_back_50 trivial ⟨rfl, Nat.le_of_ble_eq_true rfl⟩ kr
theorem k_X7_count_0 {Γ : Gm} {Ret : Option Value → Wd → Prop} {a1 : Int} {p0 : Nat} {w : Wd} (k60 : a1 = 0 → G Γ m_X7_count Ret 0 0 60 [some (vR p0), some (vI a1)] [] w) (k65 : a1 = 1 → G Γ m_X7_count Ret 0 0 65 [some (vR p0), some (vI a1)] [] w) (k72 : a1 = 2 → G Γ m_X7_count Ret 0 0 72 [some (vR p0), some (vI a1)] [] w) (k81 : a1 = 3 → G Γ m_X7_count Ret 0 0 81 [some (vR p0), some (vI a1)] [] w) (k103 : a1 = 4 → G Γ m_X7_count Ret 0 0 103 [some (vR p0), some (vI a1)] [] w) (k114 : a1 = 5 → G Γ m_X7_count Ret 0 0 114 [some (vR p0), some (vI a1)] [] w) (k125 : a1 = 6 → G Γ m_X7_count Ret 0 0 125 [some (vR p0), some (vI a1)] [] w) (k133 : a1 = 7 → G Γ m_X7_count Ret 0 0 133 [some (vR p0), some (vI a1)] [] w) (k138 : a1 = 8 → G Γ m_X7_count Ret 0 0 138 [some (vR p0), some (vI a1)] [] w) (k143 : a1 = 9 → G Γ m_X7_count Ret 0 0 143 [some (vR p0), some (vI a1)] [] w) (k148 : a1 = 10 → G Γ m_X7_count Ret 0 0 148 [some (vR p0), some (vI a1)] [] w) (kd : (a1 ≠ 0 ∧ a1 ≠ 1 ∧ a1 ≠ 2 ∧ a1 ≠ 3 ∧ a1 ≠ 4 ∧ a1 ≠ 5 ∧ a1 ≠ 6 ∧ a1 ≠ 7 ∧ a1 ≠ 8 ∧ a1 ≠ 9 ∧ a1 ≠ 10) → G Γ m_X7_count Ret 0 0 153 [some (vR p0), some (vI a1)] [] w) (h1 : sm a1 := by omega) : G Γ m_X7_count Ret 0 0 0 [some (vR p0), some (vI a1)] [] w := by
  refine G_iload_n dX7_count_0 rfl ?_
  by_cases hq : a1 < 0 ∨ 10 < a1
  · exact G_tableOut dX7_count_1 h1 hq (by decide) (kd (by omega))
  by_cases hv0 : a1 = 0
  · exact G_tableIn (off := 59) (tgt := 60) dX7_count_1 h1 (by omega) (by omega) (by rw [hv0]; rfl) (by decide) (k60 (by omega))
  by_cases hv1 : a1 = 1
  · exact G_tableIn (off := 64) (tgt := 65) dX7_count_1 h1 (by omega) (by omega) (by rw [hv1]; rfl) (by decide) (k65 (by omega))
  by_cases hv2 : a1 = 2
  · exact G_tableIn (off := 71) (tgt := 72) dX7_count_1 h1 (by omega) (by omega) (by rw [hv2]; rfl) (by decide) (k72 (by omega))
  by_cases hv3 : a1 = 3
  · exact G_tableIn (off := 80) (tgt := 81) dX7_count_1 h1 (by omega) (by omega) (by rw [hv3]; rfl) (by decide) (k81 (by omega))
  by_cases hv4 : a1 = 4
  · exact G_tableIn (off := 102) (tgt := 103) dX7_count_1 h1 (by omega) (by omega) (by rw [hv4]; rfl) (by decide) (k103 (by omega))
  by_cases hv5 : a1 = 5
  · exact G_tableIn (off := 113) (tgt := 114) dX7_count_1 h1 (by omega) (by omega) (by rw [hv5]; rfl) (by decide) (k114 (by omega))
  by_cases hv6 : a1 = 6
  · exact G_tableIn (off := 124) (tgt := 125) dX7_count_1 h1 (by omega) (by omega) (by rw [hv6]; rfl) (by decide) (k125 (by omega))
  by_cases hv7 : a1 = 7
  · exact G_tableIn (off := 132) (tgt := 133) dX7_count_1 h1 (by omega) (by omega) (by rw [hv7]; rfl) (by decide) (k133 (by omega))
  by_cases hv8 : a1 = 8
  · exact G_tableIn (off := 137) (tgt := 138) dX7_count_1 h1 (by omega) (by omega) (by rw [hv8]; rfl) (by decide) (k138 (by omega))
  by_cases hv9 : a1 = 9
  · exact G_tableIn (off := 142) (tgt := 143) dX7_count_1 h1 (by omega) (by omega) (by rw [hv9]; rfl) (by decide) (k143 (by omega))
  by_cases hv10 : a1 = 10
  · exact G_tableIn (off := 147) (tgt := 148) dX7_count_1 h1 (by omega) (by omega) (by rw [hv10]; rfl) (by decide) (k148 (by omega))
  exact absurd hq (by omega)
theorem k_X7_count_60 {Γ : Gm} {Ret : Option Value → Wd → Prop} {p0 : Nat} {o1 : Option Value} {w : Wd} (kr : Ret (some (vI (wI w p0 9))) w) (h1 : sh w p0 = some (.inr 7) := by assumption) : G Γ m_X7_count Ret 0 0 60 [some (vR p0), o1] [] w := by
  refine G_aload_n dX7_count_60 rfl ?_
  refine G_getI dX7_count_61 fl_RX7_56 h1 rfl ?_
  exact G_reti dX7_count_64 trivial ⟨rfl, Nat.le_of_ble_eq_true rfl⟩ kr
theorem k_X7_count_65 {Γ : Gm} {Ret : Option Value → Wd → Prop} {p0 q1 n2 : Nat} {o1 : Option Value} {w : Wd} (kr : Ret (some (vI (wI w q1 0))) w) (h1 : sh w p0 = some (.inr 7) := by assumption) (h2 : wR w p0 14 = vR q1 := by assumption) (h3 : sh w q1 = some (.inl (0, n2)) := by assumption) (h4 : (0 : Int) ≤ 0 ∧ 0 < (n2 : Int) := by omega) (h5 : n2 < 2147483648 := by omega) : G Γ m_X7_count Ret 0 0 65 [some (vR p0), o1] [] w := by
  refine G_aload_n dX7_count_65 rfl ?_
  refine G_getR dX7_count_66 fl_RX7_31 h1 rfl h2 ?_
  refine G_const dX7_count_69 ?_
  refine G_iald dX7_count_70 h3 h4 h5 ?_
  exact G_reti dX7_count_71 trivial ⟨rfl, Nat.le_of_ble_eq_true rfl⟩ kr
theorem k_X7_count_72 {Γ : Gm} {Ret : Option Value → Wd → Prop} {z2 : Int} {p0 q1 : Nat} {o1 : Option Value} {w : Wd} (c3 : SpP Γ m_X7_rollIn [vR p0, vR q1] w z2) (kr : Ret (some (vI z2)) w) (h1 : sh w p0 = some (.inr 7) := by assumption) (h2 : wR w p0 14 = vR q1 := by assumption) : G Γ m_X7_count Ret 0 0 72 [some (vR p0), o1] [] w := by
  refine G_aload_n dX7_count_72 rfl ?_
  refine G_aload_n dX7_count_73 rfl ?_
  refine G_getR dX7_count_74 fl_RX7_31 h1 rfl h2 ?_
  refine G_VP (as := [vR q1]) (st := []) n0_X7_rollIn dX7_count_77 ml_RX7_145 mc_X7_rollIn rfl ⟨by decide, ⟨Nat.le_of_ble_eq_true rfl, Nat.le_of_ble_eq_true rfl⟩, Nat.le_of_ble_eq_true rfl⟩ h1 ⟨_, _, rfl⟩ c3 ?_
  exact G_reti dX7_count_80 trivial ⟨rfl, Nat.le_of_ble_eq_true rfl⟩ kr
theorem k_X7_count_81 {Γ : Gm} {Ret : Option Value → Wd → Prop} {p0 q1 n2 : Nat} {o1 : Option Value} {w : Wd} (kt : (wI w q1 0) ≤ 0 → G Γ m_X7_count Ret 0 0 101 [some (vR p0), o1] [] w) (kf : ¬ ((wI w q1 0) ≤ 0) → G Γ m_X7_count Ret 0 0 90 [some (vR p0), o1] [] w) (h1 : sh w p0 = some (.inr 7) := by assumption) (h2 : wR w p0 14 = vR q1 := by assumption) (h3 : sh w q1 = some (.inl (0, n2)) := by assumption) (h4 : (0 : Int) ≤ 0 ∧ 0 < (n2 : Int) := by omega) (h5 : n2 < 2147483648 := by omega) (h6 : sm (wI w q1 0) := by omega) : G Γ m_X7_count Ret 0 0 81 [some (vR p0), o1] [] w := by
  refine G_aload_n dX7_count_81 rfl ?_
  refine G_getR dX7_count_82 fl_RX7_31 h1 rfl h2 ?_
  refine G_const dX7_count_85 ?_
  refine G_iald dX7_count_86 h3 h4 h5 ?_
  exact G_if_le dX7_count_87 (by decide) h6 kt kf
theorem k_X7_count_103 {Γ : Gm} {Ret : Option Value → Wd → Prop} {z3 : Int} {p0 q1 n2 : Nat} {o1 : Option Value} {w : Wd} (c6 : SpP Γ m_X7_bits [vI (wI w q1 29)] w z3) (kr : Ret (some (vI z3)) w) (h1 : sh w p0 = some (.inr 7) := by assumption) (h2 : wR w p0 14 = vR q1 := by assumption) (h3 : sh w q1 = some (.inl (0, n2)) := by assumption) (h4 : (0 : Int) ≤ 29 ∧ 29 < (n2 : Int) := by omega) (h5 : n2 < 2147483648 := by omega) : G Γ m_X7_count Ret 0 0 103 [some (vR p0), o1] [] w := by
  refine G_aload_n dX7_count_103 rfl ?_
  refine G_getR dX7_count_104 fl_RX7_31 h1 rfl h2 ?_
  refine G_bipush dX7_count_107 (by decide +kernel) ?_
  refine G_iald dX7_count_109 h3 h4 h5 ?_
  refine G_SP (as := [vI (wI w q1 29)]) (st := []) n0_X7_bits dX7_count_110 ml_RX7_151 mc_X7_bits rfl ⟨by decide, ⟨Nat.le_of_ble_eq_true rfl, Nat.le_of_ble_eq_true rfl⟩, Nat.le_of_ble_eq_true rfl⟩ c6 ?_
  exact G_reti dX7_count_113 trivial ⟨rfl, Nat.le_of_ble_eq_true rfl⟩ kr
theorem k_X7_count_114 {Γ : Gm} {Ret : Option Value → Wd → Prop} {z3 : Int} {p0 q1 n2 : Nat} {o1 : Option Value} {w : Wd} (c6 : SpP Γ m_X7_bits [vI (wI w q1 30)] w z3) (kr : Ret (some (vI z3)) w) (h1 : sh w p0 = some (.inr 7) := by assumption) (h2 : wR w p0 14 = vR q1 := by assumption) (h3 : sh w q1 = some (.inl (0, n2)) := by assumption) (h4 : (0 : Int) ≤ 30 ∧ 30 < (n2 : Int) := by omega) (h5 : n2 < 2147483648 := by omega) : G Γ m_X7_count Ret 0 0 114 [some (vR p0), o1] [] w := by
  refine G_aload_n dX7_count_114 rfl ?_
  refine G_getR dX7_count_115 fl_RX7_31 h1 rfl h2 ?_
  refine G_bipush dX7_count_118 (by decide +kernel) ?_
  refine G_iald dX7_count_120 h3 h4 h5 ?_
  refine G_SP (as := [vI (wI w q1 30)]) (st := []) n0_X7_bits dX7_count_121 ml_RX7_151 mc_X7_bits rfl ⟨by decide, ⟨Nat.le_of_ble_eq_true rfl, Nat.le_of_ble_eq_true rfl⟩, Nat.le_of_ble_eq_true rfl⟩ c6 ?_
  exact G_reti dX7_count_124 trivial ⟨rfl, Nat.le_of_ble_eq_true rfl⟩ kr
theorem k_X7_count_125 {Γ : Gm} {Ret : Option Value → Wd → Prop} {p0 q1 n2 : Nat} {o1 : Option Value} {w : Wd} (kr : Ret (some (vI (wI w q1 31))) w) (h1 : sh w p0 = some (.inr 7) := by assumption) (h2 : wR w p0 14 = vR q1 := by assumption) (h3 : sh w q1 = some (.inl (0, n2)) := by assumption) (h4 : (0 : Int) ≤ 31 ∧ 31 < (n2 : Int) := by omega) (h5 : n2 < 2147483648 := by omega) : G Γ m_X7_count Ret 0 0 125 [some (vR p0), o1] [] w := by
  refine G_aload_n dX7_count_125 rfl ?_
  refine G_getR dX7_count_126 fl_RX7_31 h1 rfl h2 ?_
  refine G_bipush dX7_count_129 (by decide +kernel) ?_
  refine G_iald dX7_count_131 h3 h4 h5 ?_
  exact G_reti dX7_count_132 trivial ⟨rfl, Nat.le_of_ble_eq_true rfl⟩ kr
theorem k_X7_count_133 {Γ : Gm} {Ret : Option Value → Wd → Prop} {p0 : Nat} {o1 : Option Value} {w : Wd} (kr : Ret (some (vI (wI w p0 20))) w) (h1 : sh w p0 = some (.inr 7) := by assumption) : G Γ m_X7_count Ret 0 0 133 [some (vR p0), o1] [] w := by
  refine G_aload_n dX7_count_133 rfl ?_
  refine G_getI dX7_count_134 fl_RX7_114 h1 rfl ?_
  exact G_reti dX7_count_137 trivial ⟨rfl, Nat.le_of_ble_eq_true rfl⟩ kr
theorem k_X7_count_138 {Γ : Gm} {Ret : Option Value → Wd → Prop} {p0 : Nat} {o1 : Option Value} {w : Wd} (kr : Ret (some (vI (wI w p0 17))) w) (h1 : sh w p0 = some (.inr 7) := by assumption) : G Γ m_X7_count Ret 0 0 138 [some (vR p0), o1] [] w := by
  refine G_aload_n dX7_count_138 rfl ?_
  refine G_getI dX7_count_139 fl_RX7_117 h1 rfl ?_
  exact G_reti dX7_count_142 trivial ⟨rfl, Nat.le_of_ble_eq_true rfl⟩ kr
theorem k_X7_count_143 {Γ : Gm} {Ret : Option Value → Wd → Prop} {p0 : Nat} {o1 : Option Value} {w : Wd} (kr : Ret (some (vI (wI w p0 19))) w) (h1 : sh w p0 = some (.inr 7) := by assumption) : G Γ m_X7_count Ret 0 0 143 [some (vR p0), o1] [] w := by
  refine G_aload_n dX7_count_143 rfl ?_
  refine G_getI dX7_count_144 fl_RX7_120 h1 rfl ?_
  exact G_reti dX7_count_147 trivial ⟨rfl, Nat.le_of_ble_eq_true rfl⟩ kr
theorem k_X7_count_148 {Γ : Gm} {Ret : Option Value → Wd → Prop} {p0 : Nat} {o1 : Option Value} {w : Wd} (kr : Ret (some (vI (wI w p0 0))) w) (h1 : sh w p0 = some (.inr 7) := by assumption) : G Γ m_X7_count Ret 0 0 148 [some (vR p0), o1] [] w := by
  refine G_aload_n dX7_count_148 rfl ?_
  refine G_getI dX7_count_149 fl_RX7_67 h1 rfl ?_
  exact G_reti dX7_count_152 trivial ⟨rfl, Nat.le_of_ble_eq_true rfl⟩ kr
theorem k_X7_count_153 {Γ : Gm} {Ret : Option Value → Wd → Prop} {o0 o1 : Option Value} {w : Wd} (kr : Ret (some (vI (-1))) w) : G Γ m_X7_count Ret 0 0 153 [o0, o1] [] w := by
  refine G_const dX7_count_153 ?_
  exact G_reti dX7_count_154 trivial ⟨rfl, Nat.le_of_ble_eq_true rfl⟩ kr
theorem k_X7_count_101 {Γ : Gm} {Ret : Option Value → Wd → Prop} {o0 o1 : Option Value} {w : Wd} (kr : Ret (some (vI 0)) w) : G Γ m_X7_count Ret 0 0 101 [o0, o1] [] w := by
  refine G_const dX7_count_101 ?_
  exact G_reti dX7_count_102 trivial ⟨rfl, Nat.le_of_ble_eq_true rfl⟩ kr
theorem k_X7_count_90 {Γ : Gm} {Ret : Option Value → Wd → Prop} {p0 q1 n2 : Nat} {o1 : Option Value} {w : Wd} (kr : Ret (some (vI ((wI w q1 0) - 1))) w) (h1 : sh w p0 = some (.inr 7) := by assumption) (h2 : wR w p0 14 = vR q1 := by assumption) (h3 : sh w q1 = some (.inl (0, n2)) := by assumption) (h4 : (0 : Int) ≤ 0 ∧ 0 < (n2 : Int) := by omega) (h5 : n2 < 2147483648 := by omega) : G Γ m_X7_count Ret 0 0 90 [some (vR p0), o1] [] w := by
  refine G_aload_n dX7_count_90 rfl ?_
  refine G_getR dX7_count_91 fl_RX7_31 h1 rfl h2 ?_
  refine G_const dX7_count_94 ?_
  refine G_iald dX7_count_95 h3 h4 h5 ?_
  refine G_const dX7_count_96 ?_
  refine G_isub dX7_count_97 ?_
  refine G_goto dX7_count_98 (tgt := 102) (by decide) ?_
  exact G_reti dX7_count_102 trivial ⟨rfl, Nat.le_of_ble_eq_true rfl⟩ kr
