theorem k_X7_init_0 {Γ : Gm} {Ret : Option Value → Wd → Prop} {kc ks : Nat} {p0 : Nat} {w : Wd} (km : G Γ m_X7_init Ret (((kc + 1) + 1) + 1) (((ks + 200) + 36) + 12) 29 [some (vR p0)] [] (stR (nwW (stR (nwW (stR (nwW w) p0 1 (vR w.1))) p0 6 (vR (stR (nwW w) p0 1 (vR w.1)).1))) p0 7 (vR (stR (nwW (stR (nwW w) p0 1 (vR w.1))) p0 6 (vR (stR (nwW w) p0 1 (vR w.1)).1)).1))) (h1 : ∃ x, sh w p0 = some x := by exact ⟨_, by assumption⟩) (h2 : shp[w.1]? = some (.inl (0, 200)) := by assumption) (h3 : kc + 1 ≤ m_X7_init.2.2.2.2.cells ∧ ks + 200 ≤ m_X7_init.2.2.2.2.slots := by decide) (h4 : sh (nwW w) p0 = some (.inr 7) := by assumption) (h5 : shp[(stR (nwW w) p0 1 (vR w.1)).1]? = some (.inl (0, 36)) := by assumption) (h6 : (kc + 1) + 1 ≤ m_X7_init.2.2.2.2.cells ∧ (ks + 200) + 36 ≤ m_X7_init.2.2.2.2.slots := by decide) (h7 : sh (nwW (stR (nwW w) p0 1 (vR w.1))) p0 = some (.inr 7) := by assumption) (h8 : shp[(stR (nwW (stR (nwW w) p0 1 (vR w.1))) p0 6 (vR (stR (nwW w) p0 1 (vR w.1)).1)).1]? = some (.inl (0, 12)) := by assumption) (h9 : ((kc + 1) + 1) + 1 ≤ m_X7_init.2.2.2.2.cells ∧ ((ks + 200) + 36) + 12 ≤ m_X7_init.2.2.2.2.slots := by decide) (h10 : sh (nwW (stR (nwW (stR (nwW w) p0 1 (vR w.1))) p0 6 (vR (stR (nwW w) p0 1 (vR w.1)).1))) p0 = some (.inr 7) := by assumption) : G Γ m_X7_init Ret kc ks 0 [some (vR p0)] [] w := by
  refine G_aload_n dX7_init_0 rfl ?_
  refine G_obj dX7_init_1 tb_758 tb_60 tb_61 h1 (by decide) ?_
  refine G_aload_n dX7_init_4 rfl ?_
  refine G_sipush dX7_init_5 (by decide +kernel) ?_
  refine G_newarr (n := 200) (t := 0) (ty := .int) dX7_init_8 (by decide) rfl tb_125 h2 (by decide) h3 ?_
  refine G_putR (ty := (.array .int)) dX7_init_10 fl_RX7_7 h4 rfl (fun _ => ⟨rfl, _, _, rfl⟩) (by decide +kernel) (fun _ => rfl) (fun _ => rfl) ?_
  refine G_aload_n dX7_init_13 rfl ?_
  refine G_bipush dX7_init_14 (by decide +kernel) ?_
  refine G_newarr (n := 36) (t := 0) (ty := .int) dX7_init_16 (by decide) rfl tb_125 h5 (by decide) h6 ?_
  refine G_putR (ty := (.array .int)) dX7_init_18 fl_RX7_13 h7 rfl (fun _ => ⟨rfl, _, _, rfl⟩) (by decide +kernel) (fun _ => rfl) (fun _ => rfl) ?_
  refine G_aload_n dX7_init_21 rfl ?_
  refine G_bipush dX7_init_22 (by decide +kernel) ?_
  refine G_newarr (n := 12) (t := 0) (ty := .int) dX7_init_24 (by decide) rfl tb_125 h8 (by decide) h9 ?_
  refine G_putR (ty := (.array .int)) dX7_init_26 fl_RX7_16 h10 rfl (fun _ => ⟨rfl, _, _, rfl⟩) (by decide +kernel) (fun _ => rfl) (fun _ => rfl) ?_
  exact km
theorem k_X7_init_29 {Γ : Gm} {Ret : Option Value → Wd → Prop} {kc ks : Nat} {p0 : Nat} {w : Wd} (km : G Γ m_X7_init Ret (((kc + 1) + 1) + 1) (((ks + 6) + 36) + 12) 53 [some (vR p0)] [] (stR (nwW (stR (nwW (stR (nwW w) p0 8 (vR w.1))) p0 11 (vR (stR (nwW w) p0 8 (vR w.1)).1))) p0 12 (vR (stR (nwW (stR (nwW w) p0 8 (vR w.1))) p0 11 (vR (stR (nwW w) p0 8 (vR w.1)).1)).1))) (h1 : shp[w.1]? = some (.inl (0, 6)) := by assumption) (h2 : kc + 1 ≤ m_X7_init.2.2.2.2.cells ∧ ks + 6 ≤ m_X7_init.2.2.2.2.slots := by decide) (h3 : sh (nwW w) p0 = some (.inr 7) := by assumption) (h4 : shp[(stR (nwW w) p0 8 (vR w.1)).1]? = some (.inl (0, 36)) := by assumption) (h5 : (kc + 1) + 1 ≤ m_X7_init.2.2.2.2.cells ∧ (ks + 6) + 36 ≤ m_X7_init.2.2.2.2.slots := by decide) (h6 : sh (nwW (stR (nwW w) p0 8 (vR w.1))) p0 = some (.inr 7) := by assumption) (h7 : shp[(stR (nwW (stR (nwW w) p0 8 (vR w.1))) p0 11 (vR (stR (nwW w) p0 8 (vR w.1)).1)).1]? = some (.inl (0, 12)) := by assumption) (h8 : ((kc + 1) + 1) + 1 ≤ m_X7_init.2.2.2.2.cells ∧ ((ks + 6) + 36) + 12 ≤ m_X7_init.2.2.2.2.slots := by decide) (h9 : sh (nwW (stR (nwW (stR (nwW w) p0 8 (vR w.1))) p0 11 (vR (stR (nwW w) p0 8 (vR w.1)).1))) p0 = some (.inr 7) := by assumption) : G Γ m_X7_init Ret kc ks 29 [some (vR p0)] [] w := by
  refine G_aload_n dX7_init_29 rfl ?_
  refine G_bipush dX7_init_30 (by decide +kernel) ?_
  refine G_newarr (n := 6) (t := 0) (ty := .int) dX7_init_32 (by decide) rfl tb_125 h1 (by decide) h2 ?_
  refine G_putR (ty := (.array .int)) dX7_init_34 fl_RX7_19 h3 rfl (fun _ => ⟨rfl, _, _, rfl⟩) (by decide +kernel) (fun _ => rfl) (fun _ => rfl) ?_
  refine G_aload_n dX7_init_37 rfl ?_
  refine G_bipush dX7_init_38 (by decide +kernel) ?_
  refine G_newarr (n := 36) (t := 0) (ty := .int) dX7_init_40 (by decide) rfl tb_125 h4 (by decide) h5 ?_
  refine G_putR (ty := (.array .int)) dX7_init_42 fl_RX7_22 h6 rfl (fun _ => ⟨rfl, _, _, rfl⟩) (by decide +kernel) (fun _ => rfl) (fun _ => rfl) ?_
  refine G_aload_n dX7_init_45 rfl ?_
  refine G_bipush dX7_init_46 (by decide +kernel) ?_
  refine G_newarr (n := 12) (t := 0) (ty := .int) dX7_init_48 (by decide) rfl tb_125 h7 (by decide) h8 ?_
  refine G_putR (ty := (.array .int)) dX7_init_50 fl_RX7_25 h9 rfl (fun _ => ⟨rfl, _, _, rfl⟩) (by decide +kernel) (fun _ => rfl) (fun _ => rfl) ?_
  exact km
theorem k_X7_init_53 {Γ : Gm} {Ret : Option Value → Wd → Prop} {kc ks : Nat} {p0 : Nat} {w : Wd} (km : G Γ m_X7_init Ret (((kc + 1) + 1) + 1) (((ks + 6) + 32) + 32) 77 [some (vR p0)] [] (stR (nwW (stR (nwW (stR (nwW w) p0 13 (vR w.1))) p0 14 (vR (stR (nwW w) p0 13 (vR w.1)).1))) p0 15 (vR (stR (nwW (stR (nwW w) p0 13 (vR w.1))) p0 14 (vR (stR (nwW w) p0 13 (vR w.1)).1)).1))) (h1 : shp[w.1]? = some (.inl (0, 6)) := by assumption) (h2 : kc + 1 ≤ m_X7_init.2.2.2.2.cells ∧ ks + 6 ≤ m_X7_init.2.2.2.2.slots := by decide) (h3 : sh (nwW w) p0 = some (.inr 7) := by assumption) (h4 : shp[(stR (nwW w) p0 13 (vR w.1)).1]? = some (.inl (0, 32)) := by assumption) (h5 : (kc + 1) + 1 ≤ m_X7_init.2.2.2.2.cells ∧ (ks + 6) + 32 ≤ m_X7_init.2.2.2.2.slots := by decide) (h6 : sh (nwW (stR (nwW w) p0 13 (vR w.1))) p0 = some (.inr 7) := by assumption) (h7 : shp[(stR (nwW (stR (nwW w) p0 13 (vR w.1))) p0 14 (vR (stR (nwW w) p0 13 (vR w.1)).1)).1]? = some (.inl (0, 32)) := by assumption) (h8 : ((kc + 1) + 1) + 1 ≤ m_X7_init.2.2.2.2.cells ∧ ((ks + 6) + 32) + 32 ≤ m_X7_init.2.2.2.2.slots := by decide) (h9 : sh (nwW (stR (nwW (stR (nwW w) p0 13 (vR w.1))) p0 14 (vR (stR (nwW w) p0 13 (vR w.1)).1))) p0 = some (.inr 7) := by assumption) : G Γ m_X7_init Ret kc ks 53 [some (vR p0)] [] w := by
  refine G_aload_n dX7_init_53 rfl ?_
  refine G_bipush dX7_init_54 (by decide +kernel) ?_
  refine G_newarr (n := 6) (t := 0) (ty := .int) dX7_init_56 (by decide) rfl tb_125 h1 (by decide) h2 ?_
  refine G_putR (ty := (.array .int)) dX7_init_58 fl_RX7_28 h3 rfl (fun _ => ⟨rfl, _, _, rfl⟩) (by decide +kernel) (fun _ => rfl) (fun _ => rfl) ?_
  refine G_aload_n dX7_init_61 rfl ?_
  refine G_bipush dX7_init_62 (by decide +kernel) ?_
  refine G_newarr (n := 32) (t := 0) (ty := .int) dX7_init_64 (by decide) rfl tb_125 h4 (by decide) h5 ?_
  refine G_putR (ty := (.array .int)) dX7_init_66 fl_RX7_31 h6 rfl (fun _ => ⟨rfl, _, _, rfl⟩) (by decide +kernel) (fun _ => rfl) (fun _ => rfl) ?_
  refine G_aload_n dX7_init_69 rfl ?_
  refine G_bipush dX7_init_70 (by decide +kernel) ?_
  refine G_newarr (n := 32) (t := 0) (ty := .int) dX7_init_72 (by decide) rfl tb_125 h7 (by decide) h8 ?_
  refine G_putR (ty := (.array .int)) dX7_init_74 fl_RX7_34 h9 rfl (fun _ => ⟨rfl, _, _, rfl⟩) (by decide +kernel) (fun _ => rfl) (fun _ => rfl) ?_
  exact km
theorem k_X7_init_77 {Γ : Gm} {Ret : Option Value → Wd → Prop} {kc ks : Nat} {p0 : Nat} {w : Wd} (km : G Γ m_X7_init Ret (((kc + 1) + 1) + 1) (((ks + 256) + 64) + 12) 102 [some (vR p0)] [] (stR (nwW (stR (nwW (stR (nwW w) p0 16 (vR w.1))) p0 18 (vR (stR (nwW w) p0 16 (vR w.1)).1))) p0 21 (vR (stR (nwW (stR (nwW w) p0 16 (vR w.1))) p0 18 (vR (stR (nwW w) p0 16 (vR w.1)).1)).1))) (h1 : shp[w.1]? = some (.inl (0, 256)) := by assumption) (h2 : kc + 1 ≤ m_X7_init.2.2.2.2.cells ∧ ks + 256 ≤ m_X7_init.2.2.2.2.slots := by decide) (h3 : sh (nwW w) p0 = some (.inr 7) := by assumption) (h4 : shp[(stR (nwW w) p0 16 (vR w.1)).1]? = some (.inl (0, 64)) := by assumption) (h5 : (kc + 1) + 1 ≤ m_X7_init.2.2.2.2.cells ∧ (ks + 256) + 64 ≤ m_X7_init.2.2.2.2.slots := by decide) (h6 : sh (nwW (stR (nwW w) p0 16 (vR w.1))) p0 = some (.inr 7) := by assumption) (h7 : shp[(stR (nwW (stR (nwW w) p0 16 (vR w.1))) p0 18 (vR (stR (nwW w) p0 16 (vR w.1)).1)).1]? = some (.inl (0, 12)) := by assumption) (h8 : ((kc + 1) + 1) + 1 ≤ m_X7_init.2.2.2.2.cells ∧ ((ks + 256) + 64) + 12 ≤ m_X7_init.2.2.2.2.slots := by decide) (h9 : sh (nwW (stR (nwW (stR (nwW w) p0 16 (vR w.1))) p0 18 (vR (stR (nwW w) p0 16 (vR w.1)).1))) p0 = some (.inr 7) := by assumption) : G Γ m_X7_init Ret kc ks 77 [some (vR p0)] [] w := by
  refine G_aload_n dX7_init_77 rfl ?_
  refine G_sipush dX7_init_78 (by decide +kernel) ?_
  refine G_newarr (n := 256) (t := 0) (ty := .int) dX7_init_81 (by decide) rfl tb_125 h1 (by decide) h2 ?_
  refine G_putR (ty := (.array .int)) dX7_init_83 fl_RX7_37 h3 rfl (fun _ => ⟨rfl, _, _, rfl⟩) (by decide +kernel) (fun _ => rfl) (fun _ => rfl) ?_
  refine G_aload_n dX7_init_86 rfl ?_
  refine G_bipush dX7_init_87 (by decide +kernel) ?_
  refine G_newarr (n := 64) (t := 0) (ty := .int) dX7_init_89 (by decide) rfl tb_125 h4 (by decide) h5 ?_
  refine G_putR (ty := (.array .int)) dX7_init_91 fl_RX7_40 h6 rfl (fun _ => ⟨rfl, _, _, rfl⟩) (by decide +kernel) (fun _ => rfl) (fun _ => rfl) ?_
  refine G_aload_n dX7_init_94 rfl ?_
  refine G_bipush dX7_init_95 (by decide +kernel) ?_
  refine G_newarr (n := 12) (t := 0) (ty := .int) dX7_init_97 (by decide) rfl tb_125 h7 (by decide) h8 ?_
  refine G_putR (ty := (.array .int)) dX7_init_99 fl_RX7_43 h9 rfl (fun _ => ⟨rfl, _, _, rfl⟩) (by decide +kernel) (fun _ => rfl) (fun _ => rfl) ?_
  exact km
theorem k_X7_init_102 {Γ : Gm} {Ret : Option Value → Wd → Prop} {kc ks : Nat} {p0 : Nat} {w : Wd} {Q : Wd → Prop} (c9 : SpV Γ m_X7_addStrip [vR p0, vI 0, vI 11, vI 3, vI 2] (stR (nwW (stR (nwW w) p0 22 (vR w.1))) p0 23 (vR (stR (nwW w) p0 22 (vR w.1)).1)) Q) (kq : ∀ u : Wd, Q u → G Γ m_X7_init Ret ((kc + 1) + 1) ((ks + 12) + 12) 127 [some (vR p0)] [] u) (h1 : shp[w.1]? = some (.inl (0, 12)) := by assumption) (h2 : kc + 1 ≤ m_X7_init.2.2.2.2.cells ∧ ks + 12 ≤ m_X7_init.2.2.2.2.slots := by decide) (h3 : sh (nwW w) p0 = some (.inr 7) := by assumption) (h4 : shp[(stR (nwW w) p0 22 (vR w.1)).1]? = some (.inl (0, 12)) := by assumption) (h5 : (kc + 1) + 1 ≤ m_X7_init.2.2.2.2.cells ∧ (ks + 12) + 12 ≤ m_X7_init.2.2.2.2.slots := by decide) (h6 : sh (nwW (stR (nwW w) p0 22 (vR w.1))) p0 = some (.inr 7) := by assumption) (h7 : ((kc + 1) + 1) + m_X7_addStrip.2.2.2.2.cells ≤ m_X7_init.2.2.2.2.cells ∧ ((ks + 12) + 12) + m_X7_addStrip.2.2.2.2.slots ≤ m_X7_init.2.2.2.2.slots := by decide) (h8 : sh (stR (nwW (stR (nwW w) p0 22 (vR w.1))) p0 23 (vR (stR (nwW w) p0 22 (vR w.1)).1)) p0 = some (.inr 7) := by assumption) : G Γ m_X7_init Ret kc ks 102 [some (vR p0)] [] w := by
  refine G_aload_n dX7_init_102 rfl ?_
  refine G_bipush dX7_init_103 (by decide +kernel) ?_
  refine G_newarr (n := 12) (t := 0) (ty := .int) dX7_init_105 (by decide) rfl tb_125 h1 (by decide) h2 ?_
  refine G_putR (ty := (.array .int)) dX7_init_107 fl_RX7_46 h3 rfl (fun _ => ⟨rfl, _, _, rfl⟩) (by decide +kernel) (fun _ => rfl) (fun _ => rfl) ?_
  refine G_aload_n dX7_init_110 rfl ?_
  refine G_bipush dX7_init_111 (by decide +kernel) ?_
  refine G_newarr (n := 12) (t := 0) (ty := .int) dX7_init_113 (by decide) rfl tb_125 h4 (by decide) h5 ?_
  refine G_putR (ty := (.array .int)) dX7_init_115 fl_RX7_49 h6 rfl (fun _ => ⟨rfl, _, _, rfl⟩) (by decide +kernel) (fun _ => rfl) (fun _ => rfl) ?_
  refine G_aload_n dX7_init_118 rfl ?_
  refine G_const dX7_init_119 ?_
  refine G_bipush dX7_init_120 (by decide +kernel) ?_
  refine G_const dX7_init_122 ?_
  refine G_const dX7_init_123 ?_
  exact G_VV (as := [vI 0, vI 11, vI 3, vI 2]) (st := []) n0_X7_addStrip dX7_init_124 ml_RX7_52 mc_X7_addStrip rfl ⟨by decide, h7, Nat.le_of_ble_eq_true rfl⟩ h8 ⟨_, _, rfl⟩ c9 (fun u hq => kq u hq)
theorem k_X7_init_127 {Γ : Gm} {Ret : Option Value → Wd → Prop} {kc ks : Nat} {p0 : Nat} {w : Wd} {Q : Wd → Prop} (c3 : SpV Γ m_X7_addStrip [vR p0, vI 1, vI 11, vI 7, vI 1] w Q) (kq : ∀ u : Wd, Q u → G Γ m_X7_init Ret kc ks 137 [some (vR p0)] [] u) (h1 : kc + m_X7_addStrip.2.2.2.2.cells ≤ m_X7_init.2.2.2.2.cells ∧ ks + m_X7_addStrip.2.2.2.2.slots ≤ m_X7_init.2.2.2.2.slots := by decide) (h2 : sh w p0 = some (.inr 7) := by assumption) : G Γ m_X7_init Ret kc ks 127 [some (vR p0)] [] w := by
  refine G_aload_n dX7_init_127 rfl ?_
  refine G_const dX7_init_128 ?_
  refine G_bipush dX7_init_129 (by decide +kernel) ?_
  refine G_bipush dX7_init_131 (by decide +kernel) ?_
  refine G_const dX7_init_133 ?_
  exact G_VV (as := [vI 1, vI 11, vI 7, vI 1]) (st := []) n0_X7_addStrip dX7_init_134 ml_RX7_52 mc_X7_addStrip rfl ⟨by decide, h1, Nat.le_of_ble_eq_true rfl⟩ h2 ⟨_, _, rfl⟩ c3 (fun u hq => kq u hq)
theorem k_X7_init_137 {Γ : Gm} {Ret : Option Value → Wd → Prop} {kc ks : Nat} {p0 : Nat} {w : Wd} {Q : Wd → Prop} (c3 : SpV Γ m_X7_addStrip [vR p0, vI 2, vI 12, vI 2, vI 8] w Q) (kq : ∀ u : Wd, Q u → G Γ m_X7_init Ret kc ks 147 [some (vR p0)] [] u) (h1 : kc + m_X7_addStrip.2.2.2.2.cells ≤ m_X7_init.2.2.2.2.cells ∧ ks + m_X7_addStrip.2.2.2.2.slots ≤ m_X7_init.2.2.2.2.slots := by decide) (h2 : sh w p0 = some (.inr 7) := by assumption) : G Γ m_X7_init Ret kc ks 137 [some (vR p0)] [] w := by
  refine G_aload_n dX7_init_137 rfl ?_
  refine G_const dX7_init_138 ?_
  refine G_bipush dX7_init_139 (by decide +kernel) ?_
  refine G_const dX7_init_141 ?_
  refine G_bipush dX7_init_142 (by decide +kernel) ?_
  exact G_VV (as := [vI 2, vI 12, vI 2, vI 8]) (st := []) n0_X7_addStrip dX7_init_144 ml_RX7_52 mc_X7_addStrip rfl ⟨by decide, h1, Nat.le_of_ble_eq_true rfl⟩ h2 ⟨_, _, rfl⟩ c3 (fun u hq => kq u hq)
theorem k_X7_init_147 {Γ : Gm} {Ret : Option Value → Wd → Prop} {kc ks : Nat} {p0 : Nat} {w : Wd} {Q : Wd → Prop} (c3 : SpV Γ m_X7_addStrip [vR p0, vI 3, vI 9, vI 1, vI 3] w Q) (kq : ∀ u : Wd, Q u → G Γ m_X7_init Ret kc ks 156 [some (vR p0)] [] u) (h1 : kc + m_X7_addStrip.2.2.2.2.cells ≤ m_X7_init.2.2.2.2.cells ∧ ks + m_X7_addStrip.2.2.2.2.slots ≤ m_X7_init.2.2.2.2.slots := by decide) (h2 : sh w p0 = some (.inr 7) := by assumption) : G Γ m_X7_init Ret kc ks 147 [some (vR p0)] [] w := by
  refine G_aload_n dX7_init_147 rfl ?_
  refine G_const dX7_init_148 ?_
  refine G_bipush dX7_init_149 (by decide +kernel) ?_
  refine G_const dX7_init_151 ?_
  refine G_const dX7_init_152 ?_
  exact G_VV (as := [vI 3, vI 9, vI 1, vI 3]) (st := []) n0_X7_addStrip dX7_init_153 ml_RX7_52 mc_X7_addStrip rfl ⟨by decide, h1, Nat.le_of_ble_eq_true rfl⟩ h2 ⟨_, _, rfl⟩ c3 (fun u hq => kq u hq)
theorem k_X7_init_156 {Γ : Gm} {Ret : Option Value → Wd → Prop} {kc ks : Nat} {p0 : Nat} {w : Wd} {Q : Wd → Prop} (c3 : SpV Γ m_X7_addStrip [vR p0, vI 4, vI 9, vI 5, vI 0] w Q) (kq : ∀ u : Wd, Q u → G Γ m_X7_init Ret kc ks 165 [some (vR p0)] [] u) (h1 : kc + m_X7_addStrip.2.2.2.2.cells ≤ m_X7_init.2.2.2.2.cells ∧ ks + m_X7_addStrip.2.2.2.2.slots ≤ m_X7_init.2.2.2.2.slots := by decide) (h2 : sh w p0 = some (.inr 7) := by assumption) : G Γ m_X7_init Ret kc ks 156 [some (vR p0)] [] w := by
  refine G_aload_n dX7_init_156 rfl ?_
  refine G_const dX7_init_157 ?_
  refine G_bipush dX7_init_158 (by decide +kernel) ?_
  refine G_const dX7_init_160 ?_
  refine G_const dX7_init_161 ?_
  exact G_VV (as := [vI 4, vI 9, vI 5, vI 0]) (st := []) n0_X7_addStrip dX7_init_162 ml_RX7_52 mc_X7_addStrip rfl ⟨by decide, h1, Nat.le_of_ble_eq_true rfl⟩ h2 ⟨_, _, rfl⟩ c3 (fun u hq => kq u hq)
theorem k_X7_init_165 {Γ : Gm} {Ret : Option Value → Wd → Prop} {kc ks : Nat} {p0 : Nat} {w : Wd} {Q : Wd → Prop} (c3 : SpV Γ m_X7_addStrip [vR p0, vI 5, vI 11, vI 0, vI 6] w Q) (kq : ∀ u : Wd, Q u → G Γ m_X7_init Ret kc ks 175 [some (vR p0)] [] u) (h1 : kc + m_X7_addStrip.2.2.2.2.cells ≤ m_X7_init.2.2.2.2.cells ∧ ks + m_X7_addStrip.2.2.2.2.slots ≤ m_X7_init.2.2.2.2.slots := by decide) (h2 : sh w p0 = some (.inr 7) := by assumption) : G Γ m_X7_init Ret kc ks 165 [some (vR p0)] [] w := by
  refine G_aload_n dX7_init_165 rfl ?_
  refine G_const dX7_init_166 ?_
  refine G_bipush dX7_init_167 (by decide +kernel) ?_
  refine G_const dX7_init_169 ?_
  refine G_bipush dX7_init_170 (by decide +kernel) ?_
  exact G_VV (as := [vI 5, vI 11, vI 0, vI 6]) (st := []) n0_X7_addStrip dX7_init_172 ml_RX7_52 mc_X7_addStrip rfl ⟨by decide, h1, Nat.le_of_ble_eq_true rfl⟩ h2 ⟨_, _, rfl⟩ c3 (fun u hq => kq u hq)
theorem k_X7_init_175 {Γ : Gm} {Ret : Option Value → Wd → Prop} {kc ks : Nat} {p0 : Nat} {w : Wd} {Q : Wd → Prop} (c3 : SpV Γ m_X7_addStrip [vR p0, vI 6, vI 11, vI 4, vI 4] w Q) (kq : ∀ u : Wd, Q u → G Γ m_X7_init Ret kc ks 185 [some (vR p0)] [] u) (h1 : kc + m_X7_addStrip.2.2.2.2.cells ≤ m_X7_init.2.2.2.2.cells ∧ ks + m_X7_addStrip.2.2.2.2.slots ≤ m_X7_init.2.2.2.2.slots := by decide) (h2 : sh w p0 = some (.inr 7) := by assumption) : G Γ m_X7_init Ret kc ks 175 [some (vR p0)] [] w := by
  refine G_aload_n dX7_init_175 rfl ?_
  refine G_bipush dX7_init_176 (by decide +kernel) ?_
  refine G_bipush dX7_init_178 (by decide +kernel) ?_
  refine G_const dX7_init_180 ?_
  refine G_const dX7_init_181 ?_
  exact G_VV (as := [vI 6, vI 11, vI 4, vI 4]) (st := []) n0_X7_addStrip dX7_init_182 ml_RX7_52 mc_X7_addStrip rfl ⟨by decide, h1, Nat.le_of_ble_eq_true rfl⟩ h2 ⟨_, _, rfl⟩ c3 (fun u hq => kq u hq)
theorem k_X7_init_185 {Γ : Gm} {Ret : Option Value → Wd → Prop} {kc ks : Nat} {p0 q1 q13 n2 n4 n6 n8 n10 n12 n14 n16 : Nat} {w : Wd} (km : G Γ m_X7_init Ret kc ks 249 [some (vR p0)] [] (stI (stI (stI (stI (stI (stI (stI (stI (stI w p0 9 7) q1 0 3) q1 1 50) q1 2 2) q1 3 12) q1 4 1) q1 5 3) q13 0 3) q13 1 5)) (h1 : sh w p0 = some (.inr 7) := by assumption) (h2 : sh (stI w p0 9 7) p0 = some (.inr 7) := by assumption) (h3 : wR w p0 13 = vR q1 := by assumption) (h4 : sh (stI w p0 9 7) q1 = some (.inl (0, n2)) := by assumption) (h5 : (0 : Int) ≤ 0 ∧ 0 < (n2 : Int) := by omega) (h6 : n2 < 2147483648 := by omega) (h7 : sh (stI (stI w p0 9 7) q1 0 3) p0 = some (.inr 7) := by assumption) (h8 : sh (stI (stI w p0 9 7) q1 0 3) q1 = some (.inl (0, n4)) := by assumption) (h9 : (0 : Int) ≤ 1 ∧ 1 < (n4 : Int) := by omega) (h10 : n4 < 2147483648 := by omega) (h11 : sh (stI (stI (stI w p0 9 7) q1 0 3) q1 1 50) p0 = some (.inr 7) := by assumption) (h12 : sh (stI (stI (stI w p0 9 7) q1 0 3) q1 1 50) q1 = some (.inl (0, n6)) := by assumption) (h13 : (0 : Int) ≤ 2 ∧ 2 < (n6 : Int) := by omega) (h14 : n6 < 2147483648 := by omega) (h15 : sh (stI (stI (stI (stI w p0 9 7) q1 0 3) q1 1 50) q1 2 2) p0 = some (.inr 7) := by assumption) (h16 : sh (stI (stI (stI (stI w p0 9 7) q1 0 3) q1 1 50) q1 2 2) q1 = some (.inl (0, n8)) := by assumption) (h17 : (0 : Int) ≤ 3 ∧ 3 < (n8 : Int) := by omega) (h18 : n8 < 2147483648 := by omega) (h19 : sh (stI (stI (stI (stI (stI w p0 9 7) q1 0 3) q1 1 50) q1 2 2) q1 3 12) p0 = some (.inr 7) := by assumption) (h20 : sh (stI (stI (stI (stI (stI w p0 9 7) q1 0 3) q1 1 50) q1 2 2) q1 3 12) q1 = some (.inl (0, n10)) := by assumption) (h21 : (0 : Int) ≤ 4 ∧ 4 < (n10 : Int) := by omega) (h22 : n10 < 2147483648 := by omega) (h23 : sh (stI (stI (stI (stI (stI (stI w p0 9 7) q1 0 3) q1 1 50) q1 2 2) q1 3 12) q1 4 1) p0 = some (.inr 7) := by assumption) (h24 : sh (stI (stI (stI (stI (stI (stI w p0 9 7) q1 0 3) q1 1 50) q1 2 2) q1 3 12) q1 4 1) q1 = some (.inl (0, n12)) := by assumption) (h25 : (0 : Int) ≤ 5 ∧ 5 < (n12 : Int) := by omega) (h26 : n12 < 2147483648 := by omega) (h27 : sh (stI (stI (stI (stI (stI (stI (stI w p0 9 7) q1 0 3) q1 1 50) q1 2 2) q1 3 12) q1 4 1) q1 5 3) p0 = some (.inr 7) := by assumption) (h28 : wR w p0 12 = vR q13 := by assumption) (h29 : sh (stI (stI (stI (stI (stI (stI (stI w p0 9 7) q1 0 3) q1 1 50) q1 2 2) q1 3 12) q1 4 1) q1 5 3) q13 = some (.inl (0, n14)) := by assumption) (h30 : (0 : Int) ≤ 0 ∧ 0 < (n14 : Int) := by omega) (h31 : n14 < 2147483648 := by omega) (h32 : sh (stI (stI (stI (stI (stI (stI (stI (stI w p0 9 7) q1 0 3) q1 1 50) q1 2 2) q1 3 12) q1 4 1) q1 5 3) q13 0 3) p0 = some (.inr 7) := by assumption) (h33 : sh (stI (stI (stI (stI (stI (stI (stI (stI w p0 9 7) q1 0 3) q1 1 50) q1 2 2) q1 3 12) q1 4 1) q1 5 3) q13 0 3) q13 = some (.inl (0, n16)) := by assumption) (h34 : (0 : Int) ≤ 1 ∧ 1 < (n16 : Int) := by omega) (h35 : n16 < 2147483648 := by omega) : G Γ m_X7_init Ret kc ks 185 [some (vR p0)] [] w := by
  refine G_aload_n dX7_init_185 rfl ?_
  refine G_bipush dX7_init_186 (by decide +kernel) ?_
  refine G_putI dX7_init_188 fl_RX7_56 h1 rfl ?_
  refine G_aload_n dX7_init_191 rfl ?_
  refine G_getR dX7_init_192 fl_RX7_28 h2 rfl h3 ?_
  refine G_const dX7_init_195 ?_
  refine G_const dX7_init_196 ?_
  refine G_iast dX7_init_197 h4 h5 h6 ?_
  refine G_aload_n dX7_init_198 rfl ?_
  refine G_getR dX7_init_199 fl_RX7_28 h7 rfl h3 ?_
  refine G_const dX7_init_202 ?_
  refine G_bipush dX7_init_203 (by decide +kernel) ?_
  refine G_iast dX7_init_205 h8 h9 h10 ?_
  refine G_aload_n dX7_init_206 rfl ?_
  refine G_getR dX7_init_207 fl_RX7_28 h11 rfl h3 ?_
  refine G_const dX7_init_210 ?_
  refine G_const dX7_init_211 ?_
  refine G_iast dX7_init_212 h12 h13 h14 ?_
  refine G_aload_n dX7_init_213 rfl ?_
  refine G_getR dX7_init_214 fl_RX7_28 h15 rfl h3 ?_
  refine G_const dX7_init_217 ?_
  refine G_bipush dX7_init_218 (by decide +kernel) ?_
  refine G_iast dX7_init_220 h16 h17 h18 ?_
  refine G_aload_n dX7_init_221 rfl ?_
  refine G_getR dX7_init_222 fl_RX7_28 h19 rfl h3 ?_
  refine G_const dX7_init_225 ?_
  refine G_const dX7_init_226 ?_
  refine G_iast dX7_init_227 h20 h21 h22 ?_
  refine G_aload_n dX7_init_228 rfl ?_
  refine G_getR dX7_init_229 fl_RX7_28 h23 rfl h3 ?_
  refine G_const dX7_init_232 ?_
  refine G_const dX7_init_233 ?_
  refine G_iast dX7_init_234 h24 h25 h26 ?_
  refine G_aload_n dX7_init_235 rfl ?_
  refine G_getR dX7_init_236 fl_RX7_25 h27 rfl h28 ?_
  refine G_const dX7_init_239 ?_
  refine G_const dX7_init_240 ?_
  refine G_iast dX7_init_241 h29 h30 h31 ?_
  refine G_aload_n dX7_init_242 rfl ?_
  refine G_getR dX7_init_243 fl_RX7_25 h32 rfl h28 ?_
  refine G_const dX7_init_246 ?_
  refine G_const dX7_init_247 ?_
  refine G_iast dX7_init_248 h33 h34 h35 ?_
  exact km
theorem k_X7_init_249 {Γ : Gm} {Ret : Option Value → Wd → Prop} {kc ks : Nat} {p0 q1 n2 n4 : Nat} {w : Wd} (kr : Ret none (stI (stI (stI w q1 2 8) q1 3 2) p0 10 4)) (h1 : sh w p0 = some (.inr 7) := by assumption) (h2 : wR w p0 12 = vR q1 := by assumption) (h3 : sh w q1 = some (.inl (0, n2)) := by assumption) (h4 : (0 : Int) ≤ 2 ∧ 2 < (n2 : Int) := by omega) (h5 : n2 < 2147483648 := by omega) (h6 : sh (stI w q1 2 8) p0 = some (.inr 7) := by assumption) (h7 : sh (stI w q1 2 8) q1 = some (.inl (0, n4)) := by assumption) (h8 : (0 : Int) ≤ 3 ∧ 3 < (n4 : Int) := by omega) (h9 : n4 < 2147483648 := by omega) (h10 : sh (stI (stI w q1 2 8) q1 3 2) p0 = some (.inr 7) := by assumption) (h11 : kc = m_X7_init.2.2.2.2.cells ∧ ks ≤ m_X7_init.2.2.2.2.slots := by decide) : G Γ m_X7_init Ret kc ks 249 [some (vR p0)] [] w := by
  refine G_aload_n dX7_init_249 rfl ?_
  refine G_getR dX7_init_250 fl_RX7_25 h1 rfl h2 ?_
  refine G_const dX7_init_253 ?_
  refine G_bipush dX7_init_254 (by decide +kernel) ?_
  refine G_iast dX7_init_256 h3 h4 h5 ?_
  refine G_aload_n dX7_init_257 rfl ?_
  refine G_getR dX7_init_258 fl_RX7_25 h6 rfl h2 ?_
  refine G_const dX7_init_261 ?_
  refine G_const dX7_init_262 ?_
  refine G_iast dX7_init_263 h7 h8 h9 ?_
  refine G_aload_n dX7_init_264 rfl ?_
  refine G_const dX7_init_265 ?_
  refine G_putI dX7_init_266 fl_RX7_60 h10 rfl ?_
  exact G_retv dX7_init_269 trivial h11 kr
theorem k_X7_addStrip_0 {Γ : Gm} {Ret : Option Value → Wd → Prop} {a1 a2 a3 a4 : Int} {p0 q1 n2 : Nat} {w : Wd} (kr : Ret none (stI (stI (stI w q1 (3 * a1) a2) q1 ((3 * a1) + 1) a3) q1 ((3 * a1) + 2) a4)) (h1 : sh w p0 = some (.inr 7) := by assumption) (h2 : wR w p0 11 = vR q1 := by assumption) (h3 : sh w q1 = some (.inl (0, n2)) := by assumption) (h4 : (0 : Int) ≤ (3 * a1) ∧ (3 * a1) < (n2 : Int) := by omega) (h5 : n2 < 2147483648 := by omega) (h6 : (0 : Int) ≤ ((3 * a1) + 1) ∧ ((3 * a1) + 1) < (n2 : Int) := by omega) (h7 : (0 : Int) ≤ ((3 * a1) + 2) ∧ ((3 * a1) + 2) < (n2 : Int) := by omega) : G Γ m_X7_addStrip Ret 0 0 0 [some (vR p0), some (vI a1), some (vI a2), some (vI a3), some (vI a4)] [] w := by
  refine G_aload_n dX7_addStrip_0 rfl ?_
  refine G_getR dX7_addStrip_1 fl_RX7_22 h1 rfl h2 ?_
  refine G_const dX7_addStrip_4 ?_
  refine G_iload_n dX7_addStrip_5 rfl ?_
  refine G_imul dX7_addStrip_6 ?_
  refine G_iload_n dX7_addStrip_7 rfl ?_
  refine G_iast dX7_addStrip_8 h3 h4 h5 ?_
  refine G_aload_n dX7_addStrip_9 rfl ?_
  refine G_getR dX7_addStrip_10 fl_RX7_22 h1 rfl h2 ?_
  refine G_const dX7_addStrip_13 ?_
  refine G_iload_n dX7_addStrip_14 rfl ?_
  refine G_imul dX7_addStrip_15 ?_
  refine G_const dX7_addStrip_16 ?_
  refine G_iadd dX7_addStrip_17 ?_
  refine G_iload_n dX7_addStrip_18 rfl ?_
  refine G_iast dX7_addStrip_19 h3 h6 h5 ?_
  refine G_aload_n dX7_addStrip_20 rfl ?_
  refine G_getR dX7_addStrip_21 fl_RX7_22 h1 rfl h2 ?_
  refine G_const dX7_addStrip_24 ?_
  refine G_iload_n dX7_addStrip_25 rfl ?_
  refine G_imul dX7_addStrip_26 ?_
  refine G_const dX7_addStrip_27 ?_
  refine G_iadd dX7_addStrip_28 ?_
  refine G_iload dX7_addStrip_29 rfl ?_
  refine G_iast dX7_addStrip_31 h3 h7 h5 ?_
  exact G_retv dX7_addStrip_32 trivial ⟨rfl, Nat.le_of_ble_eq_true rfl⟩ kr
theorem k_X7_in_0 {Γ : Gm} {Ret : Option Value → Wd → Prop} {a0 a1 a2 : Int} {w : Wd} (kt : a0 < a1 → G Γ m_X7_in Ret 0 0 14 [some (vI a0), some (vI a1), some (vI a2)] [] w) (kf : ¬ (a0 < a1) → G Γ m_X7_in Ret 0 0 5 [some (vI a0), some (vI a1), some (vI a2)] [] w) (h1 : sm a0 := by omega) (h2 : sm a1 := by omega) : G Γ m_X7_in Ret 0 0 0 [some (vI a0), some (vI a1), some (vI a2)] [] w := by
  refine G_iload_n dX7_in_0 rfl ?_
  refine G_iload_n dX7_in_1 rfl ?_
  exact G_icmp_lt dX7_in_2 (by decide) h1 h2 kt kf
theorem k_X7_in_14 {Γ : Gm} {Ret : Option Value → Wd → Prop} {o0 o1 o2 : Option Value} {w : Wd} (kr : Ret (some (vI 0)) w) : G Γ m_X7_in Ret 0 0 14 [o0, o1, o2] [] w := by
  refine G_const dX7_in_14 ?_
  exact G_reti dX7_in_15 (Or.inl rfl) ⟨rfl, Nat.le_of_ble_eq_true rfl⟩ kr
theorem k_X7_in_5 {Γ : Gm} {Ret : Option Value → Wd → Prop} {a0 a2 : Int} {o1 : Option Value} {w : Wd} (kt : a2 < a0 → G Γ m_X7_in Ret 0 0 14 [some (vI a0), o1, some (vI a2)] [] w) (kf : ¬ (a2 < a0) → G Γ m_X7_in Ret 0 0 10 [some (vI a0), o1, some (vI a2)] [] w) (h1 : sm a0 := by omega) (h2 : sm a2 := by omega) : G Γ m_X7_in Ret 0 0 5 [some (vI a0), o1, some (vI a2)] [] w := by
  refine G_iload_n dX7_in_5 rfl ?_
  refine G_iload_n dX7_in_6 rfl ?_
  exact G_icmp_gt dX7_in_7 (by decide) h1 h2 kt kf
theorem k_X7_in_10 {Γ : Gm} {Ret : Option Value → Wd → Prop} {o0 o1 o2 : Option Value} {w : Wd} (kr : Ret (some (vI 1)) w) : G Γ m_X7_in Ret 0 0 10 [o0, o1, o2] [] w := by
  refine G_const dX7_in_10 ?_
  refine G_goto dX7_in_11 (tgt := 15) (by decide) ?_
  exact G_reti dX7_in_15 (Or.inr rfl) ⟨rfl, Nat.le_of_ble_eq_true rfl⟩ kr
theorem k_X7_has_0 {Γ : Gm} {Ret : Option Value → Wd → Prop} {a0 a1 : Int} {w : Wd} (kt : (zand (zshr a0 a1) 1) ≠ 1 → G Γ m_X7_has Ret 0 0 13 [some (vI a0), some (vI a1)] [] w) (kf : (zand (zshr a0 a1) 1) = 1 → G Γ m_X7_has Ret 0 0 9 [some (vI a0), some (vI a1)] [] w) : G Γ m_X7_has Ret 0 0 0 [some (vI a0), some (vI a1)] [] w := by
  refine G_iload_n dX7_has_0 rfl ?_
  refine G_iload_n dX7_has_1 rfl ?_
  refine G_ishr dX7_has_2 ?_
  refine G_const dX7_has_3 ?_
  refine G_iand dX7_has_4 ?_
  refine G_const dX7_has_5 ?_
  exact G_icmp_ne dX7_has_6 (by decide) (sm_of _) (by decide) kt kf
theorem k_X7_has_13 {Γ : Gm} {Ret : Option Value → Wd → Prop} {o0 o1 : Option Value} {w : Wd} (kr : Ret (some (vI 0)) w) : G Γ m_X7_has Ret 0 0 13 [o0, o1] [] w := by
  refine G_const dX7_has_13 ?_
  exact G_reti dX7_has_14 (Or.inl rfl) ⟨rfl, Nat.le_of_ble_eq_true rfl⟩ kr
theorem k_X7_has_9 {Γ : Gm} {Ret : Option Value → Wd → Prop} {o0 o1 : Option Value} {w : Wd} (kr : Ret (some (vI 1)) w) : G Γ m_X7_has Ret 0 0 9 [o0, o1] [] w := by
  refine G_const dX7_has_9 ?_
  refine G_goto dX7_has_10 (tgt := 14) (by decide) ?_
  exact G_reti dX7_has_14 (Or.inr rfl) ⟨rfl, Nat.le_of_ble_eq_true rfl⟩ kr
theorem k_X7_bits_0 {Γ : Gm} {Ret : Option Value → Wd → Prop} {a0 : Int} {w : Wd} (km : G Γ m_X7_bits Ret 0 0 4 [some (vI a0), some (vI 0), some (vI 0)] [] w) : G Γ m_X7_bits Ret 0 0 0 [some (vI a0), none, none] [] w := by
  refine G_const dX7_bits_0 ?_
  refine G_istore_n dX7_bits_1 (by decide) rfl ?_
  refine G_const dX7_bits_2 ?_
  refine G_istore_n dX7_bits_3 (by decide) rfl ?_
  exact km
theorem k_X7_bits_4 {Γ : Gm} {Ret : Option Value → Wd → Prop} {a0 a1 a2 : Int} {w : Wd} (kt : 4 ≤ a2 → G Γ m_X7_bits Ret 0 0 23 [some (vI a0), some (vI a1), some (vI a2)] [] w) (kf : ¬ (4 ≤ a2) → G Γ m_X7_bits Ret 0 0 9 [some (vI a0), some (vI a1), some (vI a2)] [] w) (h1 : sm a2 := by omega) : G Γ m_X7_bits Ret 0 0 4 [some (vI a0), some (vI a1), some (vI a2)] [] w := by
  refine G_iload_n dX7_bits_4 rfl ?_
  refine G_const dX7_bits_5 ?_
  exact G_icmp_ge dX7_bits_6 (by decide) h1 (by decide) kt kf
theorem k_X7_bits_23 {Γ : Gm} {Ret : Option Value → Wd → Prop} {a1 : Int} {o0 o2 : Option Value} {w : Wd} (kr : Ret (some (vI a1)) w) : G Γ m_X7_bits Ret 0 0 23 [o0, some (vI a1), o2] [] w := by
  refine G_iload_n dX7_bits_23 rfl ?_
  exact G_reti dX7_bits_24 trivial ⟨rfl, Nat.le_of_ble_eq_true rfl⟩ kr
theorem k_X7_bits_9 {Γ : Gm} {Ret : Option Value → Wd → Prop} {a0 a1 a2 : Int} {w : Wd} (km : G Γ m_X7_bits Ret 0 0 4 [some (vI a0), some (vI (a1 + (zand (zshr a0 a2) 1))), some (vI (a2 + 1))] [] w) : G Γ m_X7_bits Ret 0 0 9 [some (vI a0), some (vI a1), some (vI a2)] [] w := by
  refine G_iload_n dX7_bits_9 rfl ?_
  refine G_iload_n dX7_bits_10 rfl ?_
  refine G_iload_n dX7_bits_11 rfl ?_
  refine G_ishr dX7_bits_12 ?_
  refine G_const dX7_bits_13 ?_
  refine G_iand dX7_bits_14 ?_
  refine G_iadd dX7_bits_15 ?_
  refine G_istore_n dX7_bits_16 (by decide) rfl ?_
  refine G_iinc dX7_bits_17 (by decide) rfl rfl ?_
  refine G_goto dX7_bits_20 (tgt := 4) (by decide) ?_
  exact km
theorem k_X7_bring_0 {Γ : Gm} {Ret : Option Value → Wd → Prop} {a1 a3 a4 : Int} {p0 p2 : Nat} {w : Wd} (km : G Γ m_X7_bring Ret 0 0 3 [some (vR p0), some (vI a1), some (vR p2), some (vI a3), some (vI a4), some (vI 0)] [] w) : G Γ m_X7_bring Ret 0 0 0 [some (vR p0), some (vI a1), some (vR p2), some (vI a3), some (vI a4), none] [] w := by
  refine G_const dX7_bring_0 ?_
  refine G_istore dX7_bring_1 (by decide) rfl ?_
  exact km
theorem k_X7_bring_3 {Γ : Gm} {Ret : Option Value → Wd → Prop} {a1 a3 a4 a5 : Int} {p0 p2 : Nat} {w : Wd} (kt : a4 ≤ a5 → G Γ m_X7_bring Ret 0 0 28 [some (vR p0), some (vI a1), some (vR p2), some (vI a3), some (vI a4), some (vI a5)] [] w) (kf : ¬ (a4 ≤ a5) → G Γ m_X7_bring Ret 0 0 10 [some (vR p0), some (vI a1), some (vR p2), some (vI a3), some (vI a4), some (vI a5)] [] w) (h1 : sm a5 := by omega) (h2 : sm a4 := by omega) : G Γ m_X7_bring Ret 0 0 3 [some (vR p0), some (vI a1), some (vR p2), some (vI a3), some (vI a4), some (vI a5)] [] w := by
  refine G_iload dX7_bring_3 rfl ?_
  refine G_iload dX7_bring_5 rfl ?_
  exact G_icmp_ge dX7_bring_7 (by decide) h1 h2 kt kf
theorem k_X7_bring_28 {Γ : Gm} {Ret : Option Value → Wd → Prop} {o0 o1 o2 o3 o4 o5 : Option Value} {w : Wd} (kr : Ret none w) : G Γ m_X7_bring Ret 0 0 28 [o0, o1, o2, o3, o4, o5] [] w := by
  exact G_retv dX7_bring_28 trivial ⟨rfl, Nat.le_of_ble_eq_true rfl⟩ kr
theorem k_X7_bring_10 {Γ : Gm} {Ret : Option Value → Wd → Prop} {a1 a3 a4 a5 : Int} {p0 p2 n1 n2 : Nat} {w : Wd} (km : G Γ m_X7_bring Ret 0 0 3 [some (vR p0), some (vI a1), some (vR p2), some (vI a3), some (vI a4), some (vI (a5 + 1))] [] (stI w p2 (a3 + a5) (wI w p0 (a1 + a5)))) (h1 : sh w p0 = some (.inl (0, n1)) := by assumption) (h2 : (0 : Int) ≤ (a1 + a5) ∧ (a1 + a5) < (n1 : Int) := by omega) (h3 : n1 < 2147483648 := by omega) (h4 : sh w p2 = some (.inl (0, n2)) := by assumption) (h5 : (0 : Int) ≤ (a3 + a5) ∧ (a3 + a5) < (n2 : Int) := by omega) (h6 : n2 < 2147483648 := by omega) : G Γ m_X7_bring Ret 0 0 10 [some (vR p0), some (vI a1), some (vR p2), some (vI a3), some (vI a4), some (vI a5)] [] w := by
  refine G_aload_n dX7_bring_10 rfl ?_
  refine G_iload_n dX7_bring_11 rfl ?_
  refine G_iload dX7_bring_12 rfl ?_
  refine G_iadd dX7_bring_14 ?_
  refine G_aload_n dX7_bring_15 rfl ?_
  refine G_iload_n dX7_bring_16 rfl ?_
  refine G_iload dX7_bring_17 rfl ?_
  refine G_iadd dX7_bring_19 ?_
  refine G_iald dX7_bring_20 h1 h2 h3 ?_
  refine G_iast dX7_bring_21 h4 h5 h6 ?_
  refine G_iinc dX7_bring_22 (by decide) rfl rfl ?_
  refine G_goto dX7_bring_25 (tgt := 3) (by decide) ?_
  exact km
theorem k_X7_write_0 {Γ : Gm} {Ret : Option Value → Wd → Prop} {a1 z1 : Int} {p0 : Nat} {w : Wd} (c1 : SpP Γ m_X7_in [vI a1, vI 32, vI 126] w z1) (kt : z1 ≠ 0 → G Γ m_X7_write Ret 0 0 13 [some (vR p0), some (vI a1)] [] w) (kf : z1 = 0 → G Γ m_X7_write Ret 0 0 11 [some (vR p0), some (vI a1)] [] w) (h2 : sm z1 := by omega) : G Γ m_X7_write Ret 0 0 0 [some (vR p0), some (vI a1)] [] w := by
  refine G_iload_n dX7_write_0 rfl ?_
  refine G_bipush dX7_write_1 (by decide +kernel) ?_
  refine G_bipush dX7_write_3 (by decide +kernel) ?_
  refine G_SP (as := [vI a1, vI 32, vI 126]) (st := []) n0_X7_in dX7_write_5 ml_RX7_63 mc_X7_in rfl ⟨by decide, ⟨Nat.le_of_ble_eq_true rfl, Nat.le_of_ble_eq_true rfl⟩, Nat.le_of_ble_eq_true rfl⟩ c1 ?_
  exact G_if_ne dX7_write_8 (by decide) h2 kt kf
theorem k_X7_write_13 {Γ : Gm} {Ret : Option Value → Wd → Prop} {a1 : Int} {p0 : Nat} {w : Wd} (kt : (wI w p0 0) ≠ 200 → G Γ m_X7_write Ret 0 0 26 [some (vR p0), some (vI a1)] [] w) (kf : (wI w p0 0) = 200 → G Γ m_X7_write Ret 0 0 23 [some (vR p0), some (vI a1)] [] w) (h1 : sh w p0 = some (.inr 7) := by assumption) (h2 : sm (wI w p0 0) := by omega) : G Γ m_X7_write Ret 0 0 13 [some (vR p0), some (vI a1)] [] w := by
  refine G_aload_n dX7_write_13 rfl ?_
  refine G_getI dX7_write_14 fl_RX7_67 h1 rfl ?_
  refine G_sipush dX7_write_17 (by decide +kernel) ?_
  exact G_icmp_ne dX7_write_20 (by decide) h2 (by decide) kt kf
theorem k_X7_write_11 {Γ : Gm} {Ret : Option Value → Wd → Prop} {o0 o1 : Option Value} {w : Wd} (kr : Ret (some (vI (-1))) w) : G Γ m_X7_write Ret 0 0 11 [o0, o1] [] w := by
  refine G_const dX7_write_11 ?_
  exact G_reti dX7_write_12 trivial ⟨rfl, Nat.le_of_ble_eq_true rfl⟩ kr
theorem k_X7_write_26 {Γ : Gm} {Ret : Option Value → Wd → Prop} {a1 : Int} {p0 q1 n2 : Nat} {w : Wd} (kr : Ret (some (vI ((wI (stI w q1 (wI w p0 0) a1) p0 0) + 1))) (stI (stI w q1 (wI w p0 0) a1) p0 0 ((wI (stI w q1 (wI w p0 0) a1) p0 0) + 1))) (h1 : sh w p0 = some (.inr 7) := by assumption) (h2 : wR w p0 1 = vR q1 := by assumption) (h3 : sh w q1 = some (.inl (0, n2)) := by assumption) (h4 : (0 : Int) ≤ (wI w p0 0) ∧ (wI w p0 0) < (n2 : Int) := by omega) (h5 : n2 < 2147483648 := by omega) : G Γ m_X7_write Ret 0 0 26 [some (vR p0), some (vI a1)] [] w := by
  refine G_aload_n dX7_write_26 rfl ?_
  refine G_getR dX7_write_27 fl_RX7_7 h1 rfl h2 ?_
  refine G_aload_n dX7_write_30 rfl ?_
  refine G_getI dX7_write_31 fl_RX7_67 h1 rfl ?_
  refine G_iload_n dX7_write_34 rfl ?_
  refine G_iast dX7_write_35 h3 h4 h5 ?_
  refine G_aload_n dX7_write_36 rfl ?_
  refine G_dup dX7_write_37 rfl ?_
  refine G_getI dX7_write_38 fl_RX7_67 h1 rfl ?_
  refine G_const dX7_write_41 ?_
  refine G_iadd dX7_write_42 ?_
  refine G_putI dX7_write_43 fl_RX7_67 h1 rfl ?_
  refine G_aload_n dX7_write_46 rfl ?_
  refine G_getI dX7_write_47 fl_RX7_67 h1 rfl ?_
  rw [wI_hit]
  exact G_reti dX7_write_50 trivial ⟨rfl, Nat.le_of_ble_eq_true rfl⟩ kr
theorem k_X7_write_23 {Γ : Gm} {Ret : Option Value → Wd → Prop} {o0 o1 : Option Value} {w : Wd} (kr : Ret (some (vI (-3))) w) : G Γ m_X7_write Ret 0 0 23 [o0, o1] [] w := by
  refine G_bipush dX7_write_23 (by decide +kernel) ?_
  exact G_reti dX7_write_25 trivial ⟨rfl, Nat.le_of_ble_eq_true rfl⟩ kr
theorem k_X7_wipe_0 {Γ : Gm} {Ret : Option Value → Wd → Prop} {p0 : Nat} {w : Wd} (kr : Ret (some (vI (wI w p0 0))) (stI w p0 0 0)) (h1 : sh w p0 = some (.inr 7) := by assumption) : G Γ m_X7_wipe Ret 0 0 0 [some (vR p0), none] [] w := by
  refine G_aload_n dX7_wipe_0 rfl ?_
  refine G_getI dX7_wipe_1 fl_RX7_67 h1 rfl ?_
  refine G_istore_n dX7_wipe_4 (by decide) rfl ?_
  refine G_aload_n dX7_wipe_5 rfl ?_
  refine G_const dX7_wipe_6 ?_
  refine G_putI dX7_wipe_7 fl_RX7_67 h1 rfl ?_
  refine G_iload_n dX7_wipe_10 rfl ?_
  exact G_reti dX7_wipe_11 trivial ⟨rfl, Nat.le_of_ble_eq_true rfl⟩ kr
theorem k_X7_letterAt_0 {Γ : Gm} {Ret : Option Value → Wd → Prop} {a1 : Int} {p0 : Nat} {w : Wd} (kt : (wI w p0 0) ≤ a1 → G Γ m_X7_letterAt Ret 0 0 17 [some (vR p0), some (vI a1)] [] w) (kf : ¬ ((wI w p0 0) ≤ a1) → G Γ m_X7_letterAt Ret 0 0 8 [some (vR p0), some (vI a1)] [] w) (h1 : sh w p0 = some (.inr 7) := by assumption) (h2 : sm a1 := by omega) (h3 : sm (wI w p0 0) := by omega) : G Γ m_X7_letterAt Ret 0 0 0 [some (vR p0), some (vI a1)] [] w := by
  refine G_iload_n dX7_letterAt_0 rfl ?_
  refine G_aload_n dX7_letterAt_1 rfl ?_
  refine G_getI dX7_letterAt_2 fl_RX7_67 h1 rfl ?_
  exact G_icmp_ge dX7_letterAt_5 (by decide) h2 h3 kt kf
theorem k_X7_letterAt_17 {Γ : Gm} {Ret : Option Value → Wd → Prop} {o0 o1 : Option Value} {w : Wd} (kr : Ret (some (vI 0)) w) : G Γ m_X7_letterAt Ret 0 0 17 [o0, o1] [] w := by
  refine G_const dX7_letterAt_17 ?_
  exact G_reti dX7_letterAt_18 trivial ⟨rfl, Nat.le_of_ble_eq_true rfl⟩ kr
theorem k_X7_letterAt_8 {Γ : Gm} {Ret : Option Value → Wd → Prop} {a1 : Int} {p0 q1 n2 : Nat} {w : Wd} (kr : Ret (some (vI (wI w q1 a1))) w) (h1 : sh w p0 = some (.inr 7) := by assumption) (h2 : wR w p0 1 = vR q1 := by assumption) (h3 : sh w q1 = some (.inl (0, n2)) := by assumption) (h4 : (0 : Int) ≤ a1 ∧ a1 < (n2 : Int) := by omega) (h5 : n2 < 2147483648 := by omega) : G Γ m_X7_letterAt Ret 0 0 8 [some (vR p0), some (vI a1)] [] w := by
  refine G_aload_n dX7_letterAt_8 rfl ?_
  refine G_getR dX7_letterAt_9 fl_RX7_7 h1 rfl h2 ?_
  refine G_iload_n dX7_letterAt_12 rfl ?_
  refine G_iald dX7_letterAt_13 h3 h4 h5 ?_
  refine G_goto dX7_letterAt_14 (tgt := 18) (by decide) ?_
  exact G_reti dX7_letterAt_18 trivial ⟨rfl, Nat.le_of_ble_eq_true rfl⟩ kr
theorem k_X7_isNumber_0 {Γ : Gm} {Ret : Option Value → Wd → Prop} {a1 a2 a3 : Int} {p0 : Nat} {w : Wd} (km : G Γ m_X7_isNumber Ret 0 0 8 [some (vR p0), some (vI a1), some (vI a2), some (vI a3), some (vI 0)] [] (stI w p0 3 0)) (h1 : sh w p0 = some (.inr 7) := by assumption) : G Γ m_X7_isNumber Ret 0 0 0 [some (vR p0), some (vI a1), some (vI a2), some (vI a3), none] [] w := by
  refine G_const dX7_isNumber_0 ?_
  refine G_istore dX7_isNumber_1 (by decide) rfl ?_
  refine G_aload_n dX7_isNumber_3 rfl ?_
  refine G_const dX7_isNumber_4 ?_
  refine G_putI dX7_isNumber_5 fl_RX7_70 h1 rfl ?_
  exact km
theorem k_X7_isNumber_8 {Γ : Gm} {Ret : Option Value → Wd → Prop} {a1 a2 a3 a4 : Int} {p0 : Nat} {w : Wd} (kt : 2 ≤ a4 → G Γ m_X7_isNumber Ret 0 0 71 [some (vR p0), some (vI a1), some (vI a2), some (vI a3), some (vI a4)] [] w) (kf : ¬ (2 ≤ a4) → G Γ m_X7_isNumber Ret 0 0 14 [some (vR p0), some (vI a1), some (vI a2), some (vI a3), some (vI a4)] [] w) (h1 : sm a4 := by omega) : G Γ m_X7_isNumber Ret 0 0 8 [some (vR p0), some (vI a1), some (vI a2), some (vI a3), some (vI a4)] [] w := by
  refine G_iload dX7_isNumber_8 rfl ?_
  refine G_const dX7_isNumber_10 ?_
  exact G_icmp_ge dX7_isNumber_11 (by decide) h1 (by decide) kt kf
theorem k_X7_isNumber_71 {Γ : Gm} {Ret : Option Value → Wd → Prop} {a1 a2 a3 a4 : Int} {p0 : Nat} {w : Wd} (kt : a4 = 0 → G Γ m_X7_isNumber Ret 0 0 100 [some (vR p0), some (vI a1), some (vI a2), some (vI a3), some (vI a4)] [] w) (kf : ¬ (a4 = 0) → G Γ m_X7_isNumber Ret 0 0 76 [some (vR p0), some (vI a1), some (vI a2), some (vI a3), some (vI a4)] [] w) (h1 : sm a4 := by omega) : G Γ m_X7_isNumber Ret 0 0 71 [some (vR p0), some (vI a1), some (vI a2), some (vI a3), some (vI a4)] [] w := by
  refine G_iload dX7_isNumber_71 rfl ?_
  exact G_if_eq dX7_isNumber_73 (by decide) h1 kt kf
theorem k_X7_isNumber_14 {Γ : Gm} {Ret : Option Value → Wd → Prop} {a1 a2 a3 a4 z1 z2 : Int} {p0 : Nat} {w : Wd} (c2 : SpP Γ m_X7_letterAt [vR p0, vI (wI w p0 2)] w z1) (c3 : SpP Γ m_X7_in [vI z1, vI 48, vI 57] w z2) (kt : z2 = 0 → G Γ m_X7_isNumber Ret 0 0 71 [some (vR p0), some (vI a1), some (vI a2), some (vI a3), some (vI a4)] [] w) (kf : ¬ (z2 = 0) → G Γ m_X7_isNumber Ret 0 0 32 [some (vR p0), some (vI a1), some (vI a2), some (vI a3), some (vI a4)] [] w) (h1 : sh w p0 = some (.inr 7) := by assumption) (h4 : sm z2 := by omega) : G Γ m_X7_isNumber Ret 0 0 14 [some (vR p0), some (vI a1), some (vI a2), some (vI a3), some (vI a4)] [] w := by
  refine G_aload_n dX7_isNumber_14 rfl ?_
  refine G_aload_n dX7_isNumber_15 rfl ?_
  refine G_getI dX7_isNumber_16 fl_RX7_73 h1 rfl ?_
  refine G_VP (as := [vI (wI w p0 2)]) (st := []) n0_X7_letterAt dX7_isNumber_19 ml_RX7_76 mc_X7_letterAt rfl ⟨by decide, ⟨Nat.le_of_ble_eq_true rfl, Nat.le_of_ble_eq_true rfl⟩, Nat.le_of_ble_eq_true rfl⟩ h1 ⟨_, _, rfl⟩ c2 ?_
  refine G_bipush dX7_isNumber_22 (by decide +kernel) ?_
  refine G_bipush dX7_isNumber_24 (by decide +kernel) ?_
  refine G_SP (as := [vI z1, vI 48, vI 57]) (st := []) n0_X7_in dX7_isNumber_26 ml_RX7_63 mc_X7_in rfl ⟨by decide, ⟨Nat.le_of_ble_eq_true rfl, Nat.le_of_ble_eq_true rfl⟩, Nat.le_of_ble_eq_true rfl⟩ c3 ?_
  exact G_if_eq dX7_isNumber_29 (by decide) h4 kt kf
theorem k_X7_isNumber_100 {Γ : Gm} {Ret : Option Value → Wd → Prop} {o0 o1 o2 o3 o4 : Option Value} {w : Wd} (kr : Ret (some (vI 0)) w) : G Γ m_X7_isNumber Ret 0 0 100 [o0, o1, o2, o3, o4] [] w := by
  refine G_const dX7_isNumber_100 ?_
  exact G_reti dX7_isNumber_101 (Or.inl rfl) ⟨rfl, Nat.le_of_ble_eq_true rfl⟩ kr
theorem k_X7_isNumber_76 {Γ : Gm} {Ret : Option Value → Wd → Prop} {a1 a2 a3 z1 : Int} {p0 : Nat} {o4 : Option Value} {w : Wd} (c2 : SpP Γ m_X7_in [vI (wI w p0 3), vI a1, vI a2] w z1) (kt : z1 = 0 → G Γ m_X7_isNumber Ret 0 0 100 [some (vR p0), some (vI a1), some (vI a2), some (vI a3), o4] [] w) (kf : ¬ (z1 = 0) → G Γ m_X7_isNumber Ret 0 0 88 [some (vR p0), some (vI a1), some (vI a2), some (vI a3), o4] [] w) (h1 : sh w p0 = some (.inr 7) := by assumption) (h3 : sm z1 := by omega) : G Γ m_X7_isNumber Ret 0 0 76 [some (vR p0), some (vI a1), some (vI a2), some (vI a3), o4] [] w := by
  refine G_aload_n dX7_isNumber_76 rfl ?_
  refine G_getI dX7_isNumber_77 fl_RX7_70 h1 rfl ?_
  refine G_iload_n dX7_isNumber_80 rfl ?_
  refine G_iload_n dX7_isNumber_81 rfl ?_
  refine G_SP (as := [vI (wI w p0 3), vI a1, vI a2]) (st := []) n0_X7_in dX7_isNumber_82 ml_RX7_63 mc_X7_in rfl ⟨by decide, ⟨Nat.le_of_ble_eq_true rfl, Nat.le_of_ble_eq_true rfl⟩, Nat.le_of_ble_eq_true rfl⟩ c2 ?_
  exact G_if_eq dX7_isNumber_85 (by decide) h3 kt kf
theorem k_X7_isNumber_32 {Γ : Gm} {Ret : Option Value → Wd → Prop} {a1 a2 a3 a4 z1 : Int} {p0 : Nat} {w : Wd} (c2 : SpP Γ m_X7_letterAt [vR p0, vI (wI w p0 2)] w z1) (km : G Γ m_X7_isNumber Ret 0 0 8 [some (vR p0), some (vI a1), some (vI a2), some (vI a3), some (vI (a4 + 1))] [] (stI (stI w p0 3 (((10 * (wI w p0 3)) + z1) - 48)) p0 2 ((wI w p0 2) + 1))) (h1 : sh w p0 = some (.inr 7) := by assumption) : G Γ m_X7_isNumber Ret 0 0 32 [some (vR p0), some (vI a1), some (vI a2), some (vI a3), some (vI a4)] [] w := by
  refine G_aload_n dX7_isNumber_32 rfl ?_
  refine G_bipush dX7_isNumber_33 (by decide +kernel) ?_
  refine G_aload_n dX7_isNumber_35 rfl ?_
  refine G_getI dX7_isNumber_36 fl_RX7_70 h1 rfl ?_
  refine G_imul dX7_isNumber_39 ?_
  refine G_aload_n dX7_isNumber_40 rfl ?_
  refine G_aload_n dX7_isNumber_41 rfl ?_
  refine G_getI dX7_isNumber_42 fl_RX7_73 h1 rfl ?_
  refine G_VP (as := [vI (wI w p0 2)]) (st := [vI (10 * (wI w p0 3)), vR p0]) n0_X7_letterAt dX7_isNumber_45 ml_RX7_76 mc_X7_letterAt rfl ⟨by decide, ⟨Nat.le_of_ble_eq_true rfl, Nat.le_of_ble_eq_true rfl⟩, Nat.le_of_ble_eq_true rfl⟩ h1 ⟨_, _, rfl⟩ c2 ?_
  refine G_iadd dX7_isNumber_48 ?_
  refine G_bipush dX7_isNumber_49 (by decide +kernel) ?_
  refine G_isub dX7_isNumber_51 ?_
  refine G_putI dX7_isNumber_52 fl_RX7_70 h1 rfl ?_
  refine G_aload_n dX7_isNumber_55 rfl ?_
  refine G_dup dX7_isNumber_56 rfl ?_
  refine G_getI dX7_isNumber_57 fl_RX7_73 h1 rfl ?_
  rw [wI_skip (by decide)]
  refine G_const dX7_isNumber_60 ?_
  refine G_iadd dX7_isNumber_61 ?_
  refine G_putI dX7_isNumber_62 fl_RX7_73 h1 rfl ?_
  refine G_iinc dX7_isNumber_65 (by decide) rfl rfl ?_
  refine G_goto dX7_isNumber_68 (tgt := 8) (by decide) ?_
  exact km
theorem k_X7_isNumber_88 {Γ : Gm} {Ret : Option Value → Wd → Prop} {a3 z1 : Int} {p0 : Nat} {o1 o2 o4 : Option Value} {w : Wd} (c2 : SpP Γ m_X7_letterAt [vR p0, vI (wI w p0 2)] w z1) (kt : z1 = a3 → G Γ m_X7_isNumber Ret 0 0 102 [some (vR p0), o1, o2, some (vI a3), o4] [] w) (kf : ¬ (z1 = a3) → G Γ m_X7_isNumber Ret 0 0 100 [some (vR p0), o1, o2, some (vI a3), o4] [] w) (h1 : sh w p0 = some (.inr 7) := by assumption) (h3 : sm z1 := by omega) (h4 : sm a3 := by omega) : G Γ m_X7_isNumber Ret 0 0 88 [some (vR p0), o1, o2, some (vI a3), o4] [] w := by
  refine G_aload_n dX7_isNumber_88 rfl ?_
  refine G_aload_n dX7_isNumber_89 rfl ?_
  refine G_getI dX7_isNumber_90 fl_RX7_73 h1 rfl ?_
  refine G_VP (as := [vI (wI w p0 2)]) (st := []) n0_X7_letterAt dX7_isNumber_93 ml_RX7_76 mc_X7_letterAt rfl ⟨by decide, ⟨Nat.le_of_ble_eq_true rfl, Nat.le_of_ble_eq_true rfl⟩, Nat.le_of_ble_eq_true rfl⟩ h1 ⟨_, _, rfl⟩ c2 ?_
  refine G_iload_n dX7_isNumber_96 rfl ?_
  exact G_icmp_eq dX7_isNumber_97 (by decide) h3 h4 kt kf
theorem k_X7_isNumber_102 {Γ : Gm} {Ret : Option Value → Wd → Prop} {p0 : Nat} {o1 o2 o3 o4 : Option Value} {w : Wd} (kr : Ret (some (vI 1)) (stI w p0 2 ((wI w p0 2) + 1))) (h1 : sh w p0 = some (.inr 7) := by assumption) : G Γ m_X7_isNumber Ret 0 0 102 [some (vR p0), o1, o2, o3, o4] [] w := by
  refine G_aload_n dX7_isNumber_102 rfl ?_
  refine G_dup dX7_isNumber_103 rfl ?_
  refine G_getI dX7_isNumber_104 fl_RX7_73 h1 rfl ?_
  refine G_const dX7_isNumber_107 ?_
  refine G_iadd dX7_isNumber_108 ?_
  refine G_putI dX7_isNumber_109 fl_RX7_73 h1 rfl ?_
  refine G_const dX7_isNumber_112 ?_
  exact G_reti dX7_isNumber_113 (Or.inr rfl) ⟨rfl, Nat.le_of_ble_eq_true rfl⟩ kr
theorem k_X7_isStripItem_0 {Γ : Gm} {Ret : Option Value → Wd → Prop} {p0 : Nat} {w : Wd} (kt : (wI w p0 4) ≠ 12 → G Γ m_X7_isStripItem Ret 0 0 18 [some (vR p0), some (vI (3 * (wI w p0 4))), none] [] w) (kf : (wI w p0 4) = 12 → G Γ m_X7_isStripItem Ret 0 0 16 [some (vR p0), some (vI (3 * (wI w p0 4))), none] [] w) (h1 : sh w p0 = some (.inr 7) := by assumption) (h2 : sm (wI w p0 4) := by omega) : G Γ m_X7_isStripItem Ret 0 0 0 [some (vR p0), none, none] [] w := by
  refine G_const dX7_isStripItem_0 ?_
  refine G_aload_n dX7_isStripItem_1 rfl ?_
  refine G_getI dX7_isStripItem_2 fl_RX7_80 h1 rfl ?_
  refine G_imul dX7_isStripItem_5 ?_
  refine G_istore_n dX7_isStripItem_6 (by decide) rfl ?_
  refine G_aload_n dX7_isStripItem_7 rfl ?_
  refine G_getI dX7_isStripItem_8 fl_RX7_80 h1 rfl ?_
  refine G_bipush dX7_isStripItem_11 (by decide +kernel) ?_
  exact G_icmp_ne dX7_isStripItem_13 (by decide) h2 (by decide) kt kf
theorem k_X7_isStripItem_18 {Γ : Gm} {Ret : Option Value → Wd → Prop} {a1 : Int} {p0 : Nat} {o2 : Option Value} {w : Wd} (km : G Γ m_X7_isStripItem Ret 0 0 20 [some (vR p0), some (vI a1), some (vI 0)] [] w) : G Γ m_X7_isStripItem Ret 0 0 18 [some (vR p0), some (vI a1), o2] [] w := by
  refine G_const dX7_isStripItem_18 ?_
  refine G_istore_n dX7_isStripItem_19 (by decide) rfl ?_
  exact km
theorem k_X7_isStripItem_16 {Γ : Gm} {Ret : Option Value → Wd → Prop} {o0 o1 o2 : Option Value} {w : Wd} (kr : Ret (some (vI 0)) w) : G Γ m_X7_isStripItem Ret 0 0 16 [o0, o1, o2] [] w := by
  refine G_const dX7_isStripItem_16 ?_
  exact G_reti dX7_isStripItem_17 (Or.inl rfl) ⟨rfl, Nat.le_of_ble_eq_true rfl⟩ kr
theorem k_X7_isStripItem_20 {Γ : Gm} {Ret : Option Value → Wd → Prop} {a1 a2 : Int} {p0 : Nat} {w : Wd} (kt : 3 ≤ a2 → G Γ m_X7_isStripItem Ret 0 0 84 [some (vR p0), some (vI a1), some (vI a2)] [] w) (kf : ¬ (3 ≤ a2) → G Γ m_X7_isStripItem Ret 0 0 25 [some (vR p0), some (vI a1), some (vI a2)] [] w) (h1 : sm a2 := by omega) : G Γ m_X7_isStripItem Ret 0 0 20 [some (vR p0), some (vI a1), some (vI a2)] [] w := by
  refine G_iload_n dX7_isStripItem_20 rfl ?_
  refine G_const dX7_isStripItem_21 ?_
  exact G_icmp_ge dX7_isStripItem_22 (by decide) h1 (by decide) kt kf
theorem k_X7_isStripItem_84 {Γ : Gm} {Ret : Option Value → Wd → Prop} {p0 : Nat} {o1 o2 : Option Value} {w : Wd} (kr : Ret (some (vI 1)) (stI w p0 4 ((wI w p0 4) + 1))) (h1 : sh w p0 = some (.inr 7) := by assumption) : G Γ m_X7_isStripItem Ret 0 0 84 [some (vR p0), o1, o2] [] w := by
  refine G_aload_n dX7_isStripItem_84 rfl ?_
  refine G_dup dX7_isStripItem_85 rfl ?_
  refine G_getI dX7_isStripItem_86 fl_RX7_80 h1 rfl ?_
  refine G_const dX7_isStripItem_89 ?_
  refine G_iadd dX7_isStripItem_90 ?_
  refine G_putI dX7_isStripItem_91 fl_RX7_80 h1 rfl ?_
  refine G_const dX7_isStripItem_94 ?_
  exact G_reti dX7_isStripItem_95 (Or.inr rfl) ⟨rfl, Nat.le_of_ble_eq_true rfl⟩ kr
theorem k_X7_isStripItem_25 {Γ : Gm} {Ret : Option Value → Wd → Prop} {a1 a2 : Int} {p0 : Nat} {w : Wd} (kt : a2 ≠ 0 → G Γ m_X7_isStripItem Ret 0 0 34 [some (vR p0), some (vI a1), some (vI a2)] [vR p0] w) (kf : a2 = 0 → G Γ m_X7_isStripItem Ret 0 0 30 [some (vR p0), some (vI a1), some (vI a2)] [vR p0] w) (h1 : sm a2 := by omega) : G Γ m_X7_isStripItem Ret 0 0 25 [some (vR p0), some (vI a1), some (vI a2)] [] w := by
  refine G_aload_n dX7_isStripItem_25 rfl ?_
  refine G_iload_n dX7_isStripItem_26 rfl ?_
  exact G_if_ne dX7_isStripItem_27 (by decide) h1 kt kf
theorem k_X7_isStripItem_34 {Γ : Gm} {Ret : Option Value → Wd → Prop} {a1 a2 : Int} {p0 t0 : Nat} {w : Wd} (kt : a2 ≠ 0 → G Γ m_X7_isStripItem Ret 0 0 44 [some (vR p0), some (vI a1), some (vI a2)] [vI 0, vR t0] w) (kf : a2 = 0 → G Γ m_X7_isStripItem Ret 0 0 39 [some (vR p0), some (vI a1), some (vI a2)] [vI 0, vR t0] w) (h1 : sm a2 := by omega) : G Γ m_X7_isStripItem Ret 0 0 34 [some (vR p0), some (vI a1), some (vI a2)] [vR t0] w := by
  refine G_const dX7_isStripItem_34 ?_
  refine G_iload_n dX7_isStripItem_35 rfl ?_
  exact G_if_ne dX7_isStripItem_36 (by decide) h1 kt kf
theorem k_X7_isStripItem_30 {Γ : Gm} {Ret : Option Value → Wd → Prop} {a1 a2 : Int} {p0 t0 : Nat} {w : Wd} (kt : a2 ≠ 0 → G Γ m_X7_isStripItem Ret 0 0 44 [some (vR p0), some (vI a1), some (vI a2)] [vI 1, vR t0] w) (kf : a2 = 0 → G Γ m_X7_isStripItem Ret 0 0 39 [some (vR p0), some (vI a1), some (vI a2)] [vI 1, vR t0] w) (h1 : sm a2 := by omega) : G Γ m_X7_isStripItem Ret 0 0 30 [some (vR p0), some (vI a1), some (vI a2)] [vR t0] w := by
  refine G_const dX7_isStripItem_30 ?_
  refine G_goto dX7_isStripItem_31 (tgt := 35) (by decide) ?_
  refine G_iload_n dX7_isStripItem_35 rfl ?_
  exact G_if_ne dX7_isStripItem_36 (by decide) h1 kt kf
theorem k_X7_isStripItem_44 {Γ : Gm} {Ret : Option Value → Wd → Prop} {a1 a2 s1 : Int} {p0 t0 : Nat} {w : Wd} (kt : a2 ≠ 2 → G Γ m_X7_isStripItem Ret 0 0 56 [some (vR p0), some (vI a1), some (vI a2)] [vI 9, vI s1, vR t0] w) (kf : a2 = 2 → G Γ m_X7_isStripItem Ret 0 0 51 [some (vR p0), some (vI a1), some (vI a2)] [vI 9, vI s1, vR t0] w) (h1 : sm a2 := by omega) : G Γ m_X7_isStripItem Ret 0 0 44 [some (vR p0), some (vI a1), some (vI a2)] [vI s1, vR t0] w := by
  refine G_bipush dX7_isStripItem_44 (by decide +kernel) ?_
  refine G_iload_n dX7_isStripItem_46 rfl ?_
  refine G_const dX7_isStripItem_47 ?_
  exact G_icmp_ne dX7_isStripItem_48 (by decide) h1 (by decide) kt kf
theorem k_X7_isStripItem_39 {Γ : Gm} {Ret : Option Value → Wd → Prop} {a1 a2 s1 : Int} {p0 t0 : Nat} {w : Wd} (kt : a2 ≠ 2 → G Γ m_X7_isStripItem Ret 0 0 56 [some (vR p0), some (vI a1), some (vI a2)] [vI 40, vI s1, vR t0] w) (kf : a2 = 2 → G Γ m_X7_isStripItem Ret 0 0 51 [some (vR p0), some (vI a1), some (vI a2)] [vI 40, vI s1, vR t0] w) (h1 : sm a2 := by omega) : G Γ m_X7_isStripItem Ret 0 0 39 [some (vR p0), some (vI a1), some (vI a2)] [vI s1, vR t0] w := by
  refine G_bipush dX7_isStripItem_39 (by decide +kernel) ?_
  refine G_goto dX7_isStripItem_41 (tgt := 46) (by decide) ?_
  refine G_iload_n dX7_isStripItem_46 rfl ?_
  refine G_const dX7_isStripItem_47 ?_
  exact G_icmp_ne dX7_isStripItem_48 (by decide) h1 (by decide) kt kf
theorem k_X7_isStripItem_56 {Γ : Gm} {Ret : Option Value → Wd → Prop} {a1 a2 s1 s2 : Int} {p0 t0 : Nat} {w : Wd} {Q : Int → Wd → Prop} (c2 : SpI Γ m_X7_isNumber [vR t0, vI s1, vI s2, vI 44] w Q) (kq : ∀ (z : Int) (u : Wd), Q z u → G Γ m_X7_isStripItem Ret 0 0 61 [some (vR p0), some (vI a1), some (vI a2)] [vI z] u) (h1 : sh w t0 = some (.inr 7) := by assumption) : G Γ m_X7_isStripItem Ret 0 0 56 [some (vR p0), some (vI a1), some (vI a2)] [vI s2, vI s1, vR t0] w := by
  refine G_bipush dX7_isStripItem_56 (by decide +kernel) ?_
  exact G_VI (as := [vI s1, vI s2, vI 44]) (st := []) n0_X7_isNumber dX7_isStripItem_58 ml_RX7_83 mc_X7_isNumber rfl ⟨by decide, ⟨Nat.le_of_ble_eq_true rfl, Nat.le_of_ble_eq_true rfl⟩, Nat.le_of_ble_eq_true rfl⟩ h1 ⟨_, _, rfl⟩ c2 (fun z u hq => kq z u hq)
theorem k_X7_isStripItem_51 {Γ : Gm} {Ret : Option Value → Wd → Prop} {a1 a2 s1 s2 : Int} {p0 t0 : Nat} {w : Wd} {Q : Int → Wd → Prop} (c2 : SpI Γ m_X7_isNumber [vR t0, vI s1, vI s2, vI 59] w Q) (kq : ∀ (z : Int) (u : Wd), Q z u → G Γ m_X7_isStripItem Ret 0 0 61 [some (vR p0), some (vI a1), some (vI a2)] [vI z] u) (h1 : sh w t0 = some (.inr 7) := by assumption) : G Γ m_X7_isStripItem Ret 0 0 51 [some (vR p0), some (vI a1), some (vI a2)] [vI s2, vI s1, vR t0] w := by
  refine G_bipush dX7_isStripItem_51 (by decide +kernel) ?_
  refine G_goto dX7_isStripItem_53 (tgt := 58) (by decide) ?_
  exact G_VI (as := [vI s1, vI s2, vI 59]) (st := []) n0_X7_isNumber dX7_isStripItem_58 ml_RX7_83 mc_X7_isNumber rfl ⟨by decide, ⟨Nat.le_of_ble_eq_true rfl, Nat.le_of_ble_eq_true rfl⟩, Nat.le_of_ble_eq_true rfl⟩ h1 ⟨_, _, rfl⟩ c2 (fun z u hq => kq z u hq)
theorem k_X7_isStripItem_61 {Γ : Gm} {Ret : Option Value → Wd → Prop} {a1 a2 s0 : Int} {p0 : Nat} {w : Wd} (kt : s0 ≠ 0 → G Γ m_X7_isStripItem Ret 0 0 66 [some (vR p0), some (vI a1), some (vI a2)] [] w) (kf : s0 = 0 → G Γ m_X7_isStripItem Ret 0 0 64 [some (vR p0), some (vI a1), some (vI a2)] [] w) (h1 : sm s0 := by omega) : G Γ m_X7_isStripItem Ret 0 0 61 [some (vR p0), some (vI a1), some (vI a2)] [vI s0] w := by
  exact G_if_ne dX7_isStripItem_61 (by decide) h1 kt kf
theorem k_X7_isStripItem_66 {Γ : Gm} {Ret : Option Value → Wd → Prop} {a1 a2 : Int} {p0 q1 n2 : Nat} {w : Wd} (km : G Γ m_X7_isStripItem Ret 0 0 20 [some (vR p0), some (vI a1), some (vI (a2 + 1))] [] (stI w q1 (a1 + a2) (wI w p0 3))) (h1 : sh w p0 = some (.inr 7) := by assumption) (h2 : wR w p0 6 = vR q1 := by assumption) (h3 : sh w q1 = some (.inl (0, n2)) := by assumption) (h4 : (0 : Int) ≤ (a1 + a2) ∧ (a1 + a2) < (n2 : Int) := by omega) (h5 : n2 < 2147483648 := by omega) : G Γ m_X7_isStripItem Ret 0 0 66 [some (vR p0), some (vI a1), some (vI a2)] [] w := by
  refine G_aload_n dX7_isStripItem_66 rfl ?_
  refine G_getR dX7_isStripItem_67 fl_RX7_13 h1 rfl h2 ?_
  refine G_iload_n dX7_isStripItem_70 rfl ?_
  refine G_iload_n dX7_isStripItem_71 rfl ?_
  refine G_iadd dX7_isStripItem_72 ?_
  refine G_aload_n dX7_isStripItem_73 rfl ?_
  refine G_getI dX7_isStripItem_74 fl_RX7_70 h1 rfl ?_
  refine G_iast dX7_isStripItem_77 h3 h4 h5 ?_
  refine G_iinc dX7_isStripItem_78 (by decide) rfl rfl ?_
  refine G_goto dX7_isStripItem_81 (tgt := 20) (by decide) ?_
  exact km
theorem k_X7_isStripItem_64 {Γ : Gm} {Ret : Option Value → Wd → Prop} {o0 o1 o2 : Option Value} {w : Wd} (kr : Ret (some (vI 0)) w) : G Γ m_X7_isStripItem Ret 0 0 64 [o0, o1, o2] [] w := by
  refine G_const dX7_isStripItem_64 ?_
  exact G_reti dX7_isStripItem_65 (Or.inl rfl) ⟨rfl, Nat.le_of_ble_eq_true rfl⟩ kr
theorem k_X7_isDampItem_0 {Γ : Gm} {Ret : Option Value → Wd → Prop} {p0 : Nat} {w : Wd} (kt : (wI w p0 5) = 12 → G Γ m_X7_isDampItem Ret 0 0 21 [some (vR p0)] [] w) (kf : ¬ ((wI w p0 5) = 12) → G Γ m_X7_isDampItem Ret 0 0 9 [some (vR p0)] [] w) (h1 : sh w p0 = some (.inr 7) := by assumption) (h2 : sm (wI w p0 5) := by omega) : G Γ m_X7_isDampItem Ret 0 0 0 [some (vR p0)] [] w := by
  refine G_aload_n dX7_isDampItem_0 rfl ?_
  refine G_getI dX7_isDampItem_1 fl_RX7_86 h1 rfl ?_
  refine G_bipush dX7_isDampItem_4 (by decide +kernel) ?_
  exact G_icmp_eq dX7_isDampItem_6 (by decide) h2 (by decide) kt kf
theorem k_X7_isDampItem_21 {Γ : Gm} {Ret : Option Value → Wd → Prop} {o0 : Option Value} {w : Wd} (kr : Ret (some (vI 0)) w) : G Γ m_X7_isDampItem Ret 0 0 21 [o0] [] w := by
  refine G_const dX7_isDampItem_21 ?_
  exact G_reti dX7_isDampItem_22 (Or.inl rfl) ⟨rfl, Nat.le_of_ble_eq_true rfl⟩ kr
theorem k_X7_isDampItem_9 {Γ : Gm} {Ret : Option Value → Wd → Prop} {p0 : Nat} {w : Wd} {Q : Int → Wd → Prop} (c2 : SpI Γ m_X7_isNumber [vR p0, vI 0, vI 9, vI 59] w Q) (kq : ∀ (z : Int) (u : Wd), Q z u → G Γ m_X7_isDampItem Ret 0 0 18 [some (vR p0)] [vI z] u) (h1 : sh w p0 = some (.inr 7) := by assumption) : G Γ m_X7_isDampItem Ret 0 0 9 [some (vR p0)] [] w := by
  refine G_aload_n dX7_isDampItem_9 rfl ?_
  refine G_const dX7_isDampItem_10 ?_
  refine G_bipush dX7_isDampItem_11 (by decide +kernel) ?_
  refine G_bipush dX7_isDampItem_13 (by decide +kernel) ?_
  exact G_VI (as := [vI 0, vI 9, vI 59]) (st := []) n0_X7_isNumber dX7_isDampItem_15 ml_RX7_83 mc_X7_isNumber rfl ⟨by decide, ⟨Nat.le_of_ble_eq_true rfl, Nat.le_of_ble_eq_true rfl⟩, Nat.le_of_ble_eq_true rfl⟩ h1 ⟨_, _, rfl⟩ c2 (fun z u hq => kq z u hq)
theorem k_X7_isDampItem_18 {Γ : Gm} {Ret : Option Value → Wd → Prop} {s0 : Int} {p0 : Nat} {w : Wd} (kt : s0 ≠ 0 → G Γ m_X7_isDampItem Ret 0 0 23 [some (vR p0)] [] w) (kf : s0 = 0 → G Γ m_X7_isDampItem Ret 0 0 21 [some (vR p0)] [] w) (h1 : sm s0 := by omega) : G Γ m_X7_isDampItem Ret 0 0 18 [some (vR p0)] [vI s0] w := by
  exact G_if_ne dX7_isDampItem_18 (by decide) h1 kt kf
theorem k_X7_isDampItem_23 {Γ : Gm} {Ret : Option Value → Wd → Prop} {p0 q1 n2 : Nat} {w : Wd} (kr : Ret (some (vI 1)) (stI (stI w q1 (wI w p0 5) (wI w p0 3)) p0 5 ((wI (stI w q1 (wI w p0 5) (wI w p0 3)) p0 5) + 1))) (h1 : sh w p0 = some (.inr 7) := by assumption) (h2 : wR w p0 7 = vR q1 := by assumption) (h3 : sh w q1 = some (.inl (0, n2)) := by assumption) (h4 : (0 : Int) ≤ (wI w p0 5) ∧ (wI w p0 5) < (n2 : Int) := by omega) (h5 : n2 < 2147483648 := by omega) : G Γ m_X7_isDampItem Ret 0 0 23 [some (vR p0)] [] w := by
  refine G_aload_n dX7_isDampItem_23 rfl ?_
  refine G_getR dX7_isDampItem_24 fl_RX7_16 h1 rfl h2 ?_
  refine G_aload_n dX7_isDampItem_27 rfl ?_
  refine G_getI dX7_isDampItem_28 fl_RX7_86 h1 rfl ?_
  refine G_aload_n dX7_isDampItem_31 rfl ?_
  refine G_getI dX7_isDampItem_32 fl_RX7_70 h1 rfl ?_
  refine G_iast dX7_isDampItem_35 h3 h4 h5 ?_
  refine G_aload_n dX7_isDampItem_36 rfl ?_
  refine G_dup dX7_isDampItem_37 rfl ?_
  refine G_getI dX7_isDampItem_38 fl_RX7_86 h1 rfl ?_
  refine G_const dX7_isDampItem_41 ?_
  refine G_iadd dX7_isDampItem_42 ?_
  refine G_putI dX7_isDampItem_43 fl_RX7_86 h1 rfl ?_
  refine G_const dX7_isDampItem_46 ?_
  exact G_reti dX7_isDampItem_47 (Or.inr rfl) ⟨rfl, Nat.le_of_ble_eq_true rfl⟩ kr
theorem k_X7_isPair_0 {Γ : Gm} {Ret : Option Value → Wd → Prop} {a1 a2 a3 a4 a5 : Int} {p0 : Nat} {w : Wd} {Q : Int → Wd → Prop} (c2 : SpI Γ m_X7_isNumber [vR p0, vI a2, vI a3, vI 44] w Q) (kq : ∀ (z : Int) (u : Wd), Q z u → G Γ m_X7_isPair Ret 0 0 8 [some (vR p0), some (vI a1), some (vI a2), some (vI a3), some (vI a4), some (vI a5), none] [vI z] u) (h1 : sh w p0 = some (.inr 7) := by assumption) : G Γ m_X7_isPair Ret 0 0 0 [some (vR p0), some (vI a1), some (vI a2), some (vI a3), some (vI a4), some (vI a5), none] [] w := by
  refine G_aload_n dX7_isPair_0 rfl ?_
  refine G_iload_n dX7_isPair_1 rfl ?_
  refine G_iload_n dX7_isPair_2 rfl ?_
  refine G_bipush dX7_isPair_3 (by decide +kernel) ?_
  exact G_VI (as := [vI a2, vI a3, vI 44]) (st := []) n0_X7_isNumber dX7_isPair_5 ml_RX7_83 mc_X7_isNumber rfl ⟨by decide, ⟨Nat.le_of_ble_eq_true rfl, Nat.le_of_ble_eq_true rfl⟩, Nat.le_of_ble_eq_true rfl⟩ h1 ⟨_, _, rfl⟩ c2 (fun z u hq => kq z u hq)
theorem k_X7_isPair_8 {Γ : Gm} {Ret : Option Value → Wd → Prop} {a1 a4 a5 s0 : Int} {p0 : Nat} {o2 o3 o6 : Option Value} {w : Wd} (kt : s0 ≠ 0 → G Γ m_X7_isPair Ret 0 0 13 [some (vR p0), some (vI a1), o2, o3, some (vI a4), some (vI a5), o6] [] w) (kf : s0 = 0 → G Γ m_X7_isPair Ret 0 0 11 [some (vR p0), some (vI a1), o2, o3, some (vI a4), some (vI a5), o6] [] w) (h1 : sm s0 := by omega) : G Γ m_X7_isPair Ret 0 0 8 [some (vR p0), some (vI a1), o2, o3, some (vI a4), some (vI a5), o6] [vI s0] w := by
  exact G_if_ne dX7_isPair_8 (by decide) h1 kt kf
theorem k_X7_isPair_13 {Γ : Gm} {Ret : Option Value → Wd → Prop} {a1 a4 a5 : Int} {p0 : Nat} {o2 o3 o6 : Option Value} {w : Wd} {Q : Int → Wd → Prop} (c2 : SpI Γ m_X7_isNumber [vR p0, vI a4, vI a5, vI 59] w Q) (kq : ∀ (z : Int) (u : Wd), Q z u → G Γ m_X7_isPair Ret 0 0 29 [some (vR p0), some (vI a1), o2, o3, some (vI a4), some (vI a5), some (vI (wI w p0 3))] [vI z] u) (h1 : sh w p0 = some (.inr 7) := by assumption) : G Γ m_X7_isPair Ret 0 0 13 [some (vR p0), some (vI a1), o2, o3, some (vI a4), some (vI a5), o6] [] w := by
  refine G_aload_n dX7_isPair_13 rfl ?_
  refine G_getI dX7_isPair_14 fl_RX7_70 h1 rfl ?_
  refine G_istore dX7_isPair_17 (by decide) rfl ?_
  refine G_aload_n dX7_isPair_19 rfl ?_
  refine G_iload dX7_isPair_20 rfl ?_
  refine G_iload dX7_isPair_22 rfl ?_
  refine G_bipush dX7_isPair_24 (by decide +kernel) ?_
  exact G_VI (as := [vI a4, vI a5, vI 59]) (st := []) n0_X7_isNumber dX7_isPair_26 ml_RX7_83 mc_X7_isNumber rfl ⟨by decide, ⟨Nat.le_of_ble_eq_true rfl, Nat.le_of_ble_eq_true rfl⟩, Nat.le_of_ble_eq_true rfl⟩ h1 ⟨_, _, rfl⟩ c2 (fun z u hq => kq z u hq)
theorem k_X7_isPair_11 {Γ : Gm} {Ret : Option Value → Wd → Prop} {o0 o1 o2 o3 o4 o5 o6 : Option Value} {w : Wd} (kr : Ret (some (vI 0)) w) : G Γ m_X7_isPair Ret 0 0 11 [o0, o1, o2, o3, o4, o5, o6] [] w := by
  refine G_const dX7_isPair_11 ?_
  exact G_reti dX7_isPair_12 (Or.inl rfl) ⟨rfl, Nat.le_of_ble_eq_true rfl⟩ kr
theorem k_X7_isPair_29 {Γ : Gm} {Ret : Option Value → Wd → Prop} {a1 a6 s0 : Int} {p0 : Nat} {o2 o3 o4 o5 : Option Value} {w : Wd} (kt : s0 ≠ 0 → G Γ m_X7_isPair Ret 0 0 34 [some (vR p0), some (vI a1), o2, o3, o4, o5, some (vI a6)] [] w) (kf : s0 = 0 → G Γ m_X7_isPair Ret 0 0 32 [some (vR p0), some (vI a1), o2, o3, o4, o5, some (vI a6)] [] w) (h1 : sm s0 := by omega) : G Γ m_X7_isPair Ret 0 0 29 [some (vR p0), some (vI a1), o2, o3, o4, o5, some (vI a6)] [vI s0] w := by
  exact G_if_ne dX7_isPair_29 (by decide) h1 kt kf
theorem k_X7_isPair_34 {Γ : Gm} {Ret : Option Value → Wd → Prop} {a1 a6 : Int} {p0 q1 n2 : Nat} {o2 o3 o4 o5 : Option Value} {w : Wd} (kr : Ret (some (vI 1)) (stI (stI w q1 a1 a6) q1 (a1 + 1) (wI (stI w q1 a1 a6) p0 3))) (h1 : sh w p0 = some (.inr 7) := by assumption) (h2 : wR w p0 8 = vR q1 := by assumption) (h3 : sh w q1 = some (.inl (0, n2)) := by assumption) (h4 : (0 : Int) ≤ a1 ∧ a1 < (n2 : Int) := by omega) (h5 : n2 < 2147483648 := by omega) (h6 : (0 : Int) ≤ (a1 + 1) ∧ (a1 + 1) < (n2 : Int) := by omega) : G Γ m_X7_isPair Ret 0 0 34 [some (vR p0), some (vI a1), o2, o3, o4, o5, some (vI a6)] [] w := by
  refine G_aload_n dX7_isPair_34 rfl ?_
  refine G_getR dX7_isPair_35 fl_RX7_19 h1 rfl h2 ?_
  refine G_iload_n dX7_isPair_38 rfl ?_
  refine G_iload dX7_isPair_39 rfl ?_
  refine G_iast dX7_isPair_41 h3 h4 h5 ?_
  refine G_aload_n dX7_isPair_42 rfl ?_
  refine G_getR dX7_isPair_43 fl_RX7_19 h1 rfl h2 ?_
  refine G_iload_n dX7_isPair_46 rfl ?_
  refine G_const dX7_isPair_47 ?_
  refine G_iadd dX7_isPair_48 ?_
  refine G_aload_n dX7_isPair_49 rfl ?_
  refine G_getI dX7_isPair_50 fl_RX7_70 h1 rfl ?_
  refine G_iast dX7_isPair_53 h3 h6 h5 ?_
  refine G_const dX7_isPair_54 ?_
  exact G_reti dX7_isPair_55 (Or.inr rfl) ⟨rfl, Nat.le_of_ble_eq_true rfl⟩ kr
theorem k_X7_isPair_32 {Γ : Gm} {Ret : Option Value → Wd → Prop} {o0 o1 o2 o3 o4 o5 o6 : Option Value} {w : Wd} (kr : Ret (some (vI 0)) w) : G Γ m_X7_isPair Ret 0 0 32 [o0, o1, o2, o3, o4, o5, o6] [] w := by
  refine G_const dX7_isPair_32 ?_
  exact G_reti dX7_isPair_33 (Or.inl rfl) ⟨rfl, Nat.le_of_ble_eq_true rfl⟩ kr
theorem k_X7_isOne_0 {Γ : Gm} {Ret : Option Value → Wd → Prop} {a1 a2 a3 : Int} {p0 : Nat} {w : Wd} {Q : Int → Wd → Prop} (c2 : SpI Γ m_X7_isNumber [vR p0, vI a2, vI a3, vI 59] w Q) (kq : ∀ (z : Int) (u : Wd), Q z u → G Γ m_X7_isOne Ret 0 0 8 [some (vR p0), some (vI a1), some (vI a2), some (vI a3)] [vI z] u) (h1 : sh w p0 = some (.inr 7) := by assumption) : G Γ m_X7_isOne Ret 0 0 0 [some (vR p0), some (vI a1), some (vI a2), some (vI a3)] [] w := by
  refine G_aload_n dX7_isOne_0 rfl ?_
  refine G_iload_n dX7_isOne_1 rfl ?_
  refine G_iload_n dX7_isOne_2 rfl ?_
  refine G_bipush dX7_isOne_3 (by decide +kernel) ?_
  exact G_VI (as := [vI a2, vI a3, vI 59]) (st := []) n0_X7_isNumber dX7_isOne_5 ml_RX7_83 mc_X7_isNumber rfl ⟨by decide, ⟨Nat.le_of_ble_eq_true rfl, Nat.le_of_ble_eq_true rfl⟩, Nat.le_of_ble_eq_true rfl⟩ h1 ⟨_, _, rfl⟩ c2 (fun z u hq => kq z u hq)
theorem k_X7_isOne_8 {Γ : Gm} {Ret : Option Value → Wd → Prop} {a1 s0 : Int} {p0 : Nat} {o2 o3 : Option Value} {w : Wd} (kt : s0 ≠ 0 → G Γ m_X7_isOne Ret 0 0 13 [some (vR p0), some (vI a1), o2, o3] [] w) (kf : s0 = 0 → G Γ m_X7_isOne Ret 0 0 11 [some (vR p0), some (vI a1), o2, o3] [] w) (h1 : sm s0 := by omega) : G Γ m_X7_isOne Ret 0 0 8 [some (vR p0), some (vI a1), o2, o3] [vI s0] w := by
  exact G_if_ne dX7_isOne_8 (by decide) h1 kt kf
theorem k_X7_isOne_13 {Γ : Gm} {Ret : Option Value → Wd → Prop} {a1 : Int} {p0 q1 n2 : Nat} {o2 o3 : Option Value} {w : Wd} (kr : Ret (some (vI 1)) (stI w q1 a1 (wI w p0 3))) (h1 : sh w p0 = some (.inr 7) := by assumption) (h2 : wR w p0 8 = vR q1 := by assumption) (h3 : sh w q1 = some (.inl (0, n2)) := by assumption) (h4 : (0 : Int) ≤ a1 ∧ a1 < (n2 : Int) := by omega) (h5 : n2 < 2147483648 := by omega) : G Γ m_X7_isOne Ret 0 0 13 [some (vR p0), some (vI a1), o2, o3] [] w := by
  refine G_aload_n dX7_isOne_13 rfl ?_
  refine G_getR dX7_isOne_14 fl_RX7_19 h1 rfl h2 ?_
  refine G_iload_n dX7_isOne_17 rfl ?_
  refine G_aload_n dX7_isOne_18 rfl ?_
  refine G_getI dX7_isOne_19 fl_RX7_70 h1 rfl ?_
  refine G_iast dX7_isOne_22 h3 h4 h5 ?_
  refine G_const dX7_isOne_23 ?_
  exact G_reti dX7_isOne_24 (Or.inr rfl) ⟨rfl, Nat.le_of_ble_eq_true rfl⟩ kr
theorem k_X7_isOne_11 {Γ : Gm} {Ret : Option Value → Wd → Prop} {o0 o1 o2 o3 : Option Value} {w : Wd} (kr : Ret (some (vI 0)) w) : G Γ m_X7_isOne Ret 0 0 11 [o0, o1, o2, o3] [] w := by
  refine G_const dX7_isOne_11 ?_
  exact G_reti dX7_isOne_12 (Or.inl rfl) ⟨rfl, Nat.le_of_ble_eq_true rfl⟩ kr
theorem k_X7_isItem_0 {Γ : Gm} {Ret : Option Value → Wd → Prop} {z1 : Int} {p0 : Nat} {w : Wd} (c2 : SpP Γ m_X7_letterAt [vR p0, vI (wI w p0 2)] w z1) (k100 : z1 = 115 → G Γ m_X7_isItem Ret 0 0 100 [some (vR p0), some (vI z1)] [] (stI w p0 2 ((wI w p0 2) + 1))) (k105 : z1 = 114 → G Γ m_X7_isItem Ret 0 0 105 [some (vR p0), some (vI z1)] [] (stI w p0 2 ((wI w p0 2) + 1))) (k117 : z1 = 111 → G Γ m_X7_isItem Ret 0 0 117 [some (vR p0), some (vI z1)] [] (stI w p0 2 ((wI w p0 2) + 1))) (k125 : z1 = 104 → G Γ m_X7_isItem Ret 0 0 125 [some (vR p0), some (vI z1)] [] (stI w p0 2 ((wI w p0 2) + 1))) (k134 : z1 = 107 → G Γ m_X7_isItem Ret 0 0 134 [some (vR p0), some (vI z1)] [] (stI w p0 2 ((wI w p0 2) + 1))) (k145 : z1 = 100 → G Γ m_X7_isItem Ret 0 0 145 [some (vR p0), some (vI z1)] [] (stI w p0 2 ((wI w p0 2) + 1))) (kd : (z1 ≠ 100 ∧ z1 ≠ 104 ∧ z1 ≠ 107 ∧ z1 ≠ 111 ∧ z1 ≠ 114 ∧ z1 ≠ 115) → G Γ m_X7_isItem Ret 0 0 150 [some (vR p0), some (vI z1)] [] (stI w p0 2 ((wI w p0 2) + 1))) (h1 : sh w p0 = some (.inr 7) := by assumption) (h3 : sm z1 := by omega) : G Γ m_X7_isItem Ret 0 0 0 [some (vR p0), none] [] w := by
  refine G_aload_n dX7_isItem_0 rfl ?_
  refine G_aload_n dX7_isItem_1 rfl ?_
  refine G_getI dX7_isItem_2 fl_RX7_73 h1 rfl ?_
  refine G_VP (as := [vI (wI w p0 2)]) (st := []) n0_X7_letterAt dX7_isItem_5 ml_RX7_76 mc_X7_letterAt rfl ⟨by decide, ⟨Nat.le_of_ble_eq_true rfl, Nat.le_of_ble_eq_true rfl⟩, Nat.le_of_ble_eq_true rfl⟩ h1 ⟨_, _, rfl⟩ c2 ?_
  refine G_istore_n dX7_isItem_8 (by decide) rfl ?_
  refine G_aload_n dX7_isItem_9 rfl ?_
  refine G_dup dX7_isItem_10 rfl ?_
  refine G_getI dX7_isItem_11 fl_RX7_73 h1 rfl ?_
  refine G_const dX7_isItem_14 ?_
  refine G_iadd dX7_isItem_15 ?_
  refine G_putI dX7_isItem_16 fl_RX7_73 h1 rfl ?_
  refine G_iload_n dX7_isItem_19 rfl ?_
  by_cases hq : z1 < 100 ∨ 115 < z1
  · exact G_tableOut dX7_isItem_20 h3 hq (by decide) (kd (by omega))
  by_cases hv0 : z1 = 100
  · exact G_tableIn (off := 125) (tgt := 145) dX7_isItem_20 h3 (by omega) (by omega) (by rw [hv0]; rfl) (by decide) (k145 (by omega))
  by_cases hv1 : z1 = 101
  · exact G_tableIn (off := 130) (tgt := 150) dX7_isItem_20 h3 (by omega) (by omega) (by rw [hv1]; rfl) (by decide) (kd (by omega))
  by_cases hv2 : z1 = 102
  · exact G_tableIn (off := 130) (tgt := 150) dX7_isItem_20 h3 (by omega) (by omega) (by rw [hv2]; rfl) (by decide) (kd (by omega))
  by_cases hv3 : z1 = 103
  · exact G_tableIn (off := 130) (tgt := 150) dX7_isItem_20 h3 (by omega) (by omega) (by rw [hv3]; rfl) (by decide) (kd (by omega))
  by_cases hv4 : z1 = 104
  · exact G_tableIn (off := 105) (tgt := 125) dX7_isItem_20 h3 (by omega) (by omega) (by rw [hv4]; rfl) (by decide) (k125 (by omega))
  by_cases hv5 : z1 = 105
  · exact G_tableIn (off := 130) (tgt := 150) dX7_isItem_20 h3 (by omega) (by omega) (by rw [hv5]; rfl) (by decide) (kd (by omega))
  by_cases hv6 : z1 = 106
  · exact G_tableIn (off := 130) (tgt := 150) dX7_isItem_20 h3 (by omega) (by omega) (by rw [hv6]; rfl) (by decide) (kd (by omega))
  by_cases hv7 : z1 = 107
  · exact G_tableIn (off := 114) (tgt := 134) dX7_isItem_20 h3 (by omega) (by omega) (by rw [hv7]; rfl) (by decide) (k134 (by omega))
  by_cases hv8 : z1 = 108
  · exact G_tableIn (off := 130) (tgt := 150) dX7_isItem_20 h3 (by omega) (by omega) (by rw [hv8]; rfl) (by decide) (kd (by omega))
  by_cases hv9 : z1 = 109
  · exact G_tableIn (off := 130) (tgt := 150) dX7_isItem_20 h3 (by omega) (by omega) (by rw [hv9]; rfl) (by decide) (kd (by omega))
  by_cases hv10 : z1 = 110
  · exact G_tableIn (off := 130) (tgt := 150) dX7_isItem_20 h3 (by omega) (by omega) (by rw [hv10]; rfl) (by decide) (kd (by omega))
  by_cases hv11 : z1 = 111
  · exact G_tableIn (off := 97) (tgt := 117) dX7_isItem_20 h3 (by omega) (by omega) (by rw [hv11]; rfl) (by decide) (k117 (by omega))
  by_cases hv12 : z1 = 112
  · exact G_tableIn (off := 130) (tgt := 150) dX7_isItem_20 h3 (by omega) (by omega) (by rw [hv12]; rfl) (by decide) (kd (by omega))
  by_cases hv13 : z1 = 113
  · exact G_tableIn (off := 130) (tgt := 150) dX7_isItem_20 h3 (by omega) (by omega) (by rw [hv13]; rfl) (by decide) (kd (by omega))
  by_cases hv14 : z1 = 114
  · exact G_tableIn (off := 85) (tgt := 105) dX7_isItem_20 h3 (by omega) (by omega) (by rw [hv14]; rfl) (by decide) (k105 (by omega))
  by_cases hv15 : z1 = 115
  · exact G_tableIn (off := 80) (tgt := 100) dX7_isItem_20 h3 (by omega) (by omega) (by rw [hv15]; rfl) (by decide) (k100 (by omega))
  exact absurd hq (by omega)
theorem k_X7_isItem_100 {Γ : Gm} {Ret : Option Value → Wd → Prop} {p0 : Nat} {o1 : Option Value} {w : Wd} {Q : Int → Wd → Prop} (c2 : SpI Γ m_X7_isStripItem [vR p0] w Q) (kq : ∀ (z : Int) (u : Wd), Q z u → G Γ m_X7_isItem Ret 0 0 104 [some (vR p0), o1] [vI z] u) (h1 : sh w p0 = some (.inr 7) := by assumption) : G Γ m_X7_isItem Ret 0 0 100 [some (vR p0), o1] [] w := by
  refine G_aload_n dX7_isItem_100 rfl ?_
  exact G_VI (as := []) (st := []) n0_X7_isStripItem dX7_isItem_101 ml_RX7_89 mc_X7_isStripItem rfl ⟨by decide, ⟨Nat.le_of_ble_eq_true rfl, Nat.le_of_ble_eq_true rfl⟩, Nat.le_of_ble_eq_true rfl⟩ h1 ⟨_, _, rfl⟩ c2 (fun z u hq => kq z u hq)
theorem k_X7_isItem_105 {Γ : Gm} {Ret : Option Value → Wd → Prop} {p0 : Nat} {o1 : Option Value} {w : Wd} {Q : Int → Wd → Prop} (c2 : SpI Γ m_X7_isPair [vR p0, vI 0, vI 1, vI 6, vI 1, vI 99] w Q) (kq : ∀ (z : Int) (u : Wd), Q z u → G Γ m_X7_isItem Ret 0 0 116 [some (vR p0), o1] [vI z] u) (h1 : sh w p0 = some (.inr 7) := by assumption) : G Γ m_X7_isItem Ret 0 0 105 [some (vR p0), o1] [] w := by
  refine G_aload_n dX7_isItem_105 rfl ?_
  refine G_const dX7_isItem_106 ?_
  refine G_const dX7_isItem_107 ?_
  refine G_bipush dX7_isItem_108 (by decide +kernel) ?_
  refine G_const dX7_isItem_110 ?_
  refine G_bipush dX7_isItem_111 (by decide +kernel) ?_
  exact G_VI (as := [vI 0, vI 1, vI 6, vI 1, vI 99]) (st := []) n0_X7_isPair dX7_isItem_113 ml_RX7_93 mc_X7_isPair rfl ⟨by decide, ⟨Nat.le_of_ble_eq_true rfl, Nat.le_of_ble_eq_true rfl⟩, Nat.le_of_ble_eq_true rfl⟩ h1 ⟨_, _, rfl⟩ c2 (fun z u hq => kq z u hq)
theorem k_X7_isItem_117 {Γ : Gm} {Ret : Option Value → Wd → Prop} {p0 : Nat} {o1 : Option Value} {w : Wd} {Q : Int → Wd → Prop} (c2 : SpI Γ m_X7_isOne [vR p0, vI 2, vI 0, vI 5] w Q) (kq : ∀ (z : Int) (u : Wd), Q z u → G Γ m_X7_isItem Ret 0 0 124 [some (vR p0), o1] [vI z] u) (h1 : sh w p0 = some (.inr 7) := by assumption) : G Γ m_X7_isItem Ret 0 0 117 [some (vR p0), o1] [] w := by
  refine G_aload_n dX7_isItem_117 rfl ?_
  refine G_const dX7_isItem_118 ?_
  refine G_const dX7_isItem_119 ?_
  refine G_const dX7_isItem_120 ?_
  exact G_VI (as := [vI 2, vI 0, vI 5]) (st := []) n0_X7_isOne dX7_isItem_121 ml_RX7_97 mc_X7_isOne rfl ⟨by decide, ⟨Nat.le_of_ble_eq_true rfl, Nat.le_of_ble_eq_true rfl⟩, Nat.le_of_ble_eq_true rfl⟩ h1 ⟨_, _, rfl⟩ c2 (fun z u hq => kq z u hq)
theorem k_X7_isItem_125 {Γ : Gm} {Ret : Option Value → Wd → Prop} {p0 : Nat} {o1 : Option Value} {w : Wd} {Q : Int → Wd → Prop} (c2 : SpI Γ m_X7_isOne [vR p0, vI 3, vI 1, vI 30] w Q) (kq : ∀ (z : Int) (u : Wd), Q z u → G Γ m_X7_isItem Ret 0 0 133 [some (vR p0), o1] [vI z] u) (h1 : sh w p0 = some (.inr 7) := by assumption) : G Γ m_X7_isItem Ret 0 0 125 [some (vR p0), o1] [] w := by
  refine G_aload_n dX7_isItem_125 rfl ?_
  refine G_const dX7_isItem_126 ?_
  refine G_const dX7_isItem_127 ?_
  refine G_bipush dX7_isItem_128 (by decide +kernel) ?_
  exact G_VI (as := [vI 3, vI 1, vI 30]) (st := []) n0_X7_isOne dX7_isItem_130 ml_RX7_97 mc_X7_isOne rfl ⟨by decide, ⟨Nat.le_of_ble_eq_true rfl, Nat.le_of_ble_eq_true rfl⟩, Nat.le_of_ble_eq_true rfl⟩ h1 ⟨_, _, rfl⟩ c2 (fun z u hq => kq z u hq)
theorem k_X7_isItem_134 {Γ : Gm} {Ret : Option Value → Wd → Prop} {p0 : Nat} {o1 : Option Value} {w : Wd} {Q : Int → Wd → Prop} (c2 : SpI Γ m_X7_isPair [vR p0, vI 4, vI 0, vI 3, vI 1, vI 9] w Q) (kq : ∀ (z : Int) (u : Wd), Q z u → G Γ m_X7_isItem Ret 0 0 144 [some (vR p0), o1] [vI z] u) (h1 : sh w p0 = some (.inr 7) := by assumption) : G Γ m_X7_isItem Ret 0 0 134 [some (vR p0), o1] [] w := by
  refine G_aload_n dX7_isItem_134 rfl ?_
  refine G_const dX7_isItem_135 ?_
  refine G_const dX7_isItem_136 ?_
  refine G_const dX7_isItem_137 ?_
  refine G_const dX7_isItem_138 ?_
  refine G_bipush dX7_isItem_139 (by decide +kernel) ?_
  exact G_VI (as := [vI 4, vI 0, vI 3, vI 1, vI 9]) (st := []) n0_X7_isPair dX7_isItem_141 ml_RX7_93 mc_X7_isPair rfl ⟨by decide, ⟨Nat.le_of_ble_eq_true rfl, Nat.le_of_ble_eq_true rfl⟩, Nat.le_of_ble_eq_true rfl⟩ h1 ⟨_, _, rfl⟩ c2 (fun z u hq => kq z u hq)
theorem k_X7_isItem_145 {Γ : Gm} {Ret : Option Value → Wd → Prop} {p0 : Nat} {o1 : Option Value} {w : Wd} {Q : Int → Wd → Prop} (c2 : SpI Γ m_X7_isDampItem [vR p0] w Q) (kq : ∀ (z : Int) (u : Wd), Q z u → G Γ m_X7_isItem Ret 0 0 149 [some (vR p0), o1] [vI z] u) (h1 : sh w p0 = some (.inr 7) := by assumption) : G Γ m_X7_isItem Ret 0 0 145 [some (vR p0), o1] [] w := by
  refine G_aload_n dX7_isItem_145 rfl ?_
  exact G_VI (as := []) (st := []) n0_X7_isDampItem dX7_isItem_146 ml_RX7_100 mc_X7_isDampItem rfl ⟨by decide, ⟨Nat.le_of_ble_eq_true rfl, Nat.le_of_ble_eq_true rfl⟩, Nat.le_of_ble_eq_true rfl⟩ h1 ⟨_, _, rfl⟩ c2 (fun z u hq => kq z u hq)
theorem k_X7_isItem_150 {Γ : Gm} {Ret : Option Value → Wd → Prop} {o0 o1 : Option Value} {w : Wd} (kr : Ret (some (vI 0)) w) : G Γ m_X7_isItem Ret 0 0 150 [o0, o1] [] w := by
  refine G_const dX7_isItem_150 ?_
  exact G_reti dX7_isItem_151 (Or.inl rfl) ⟨rfl, Nat.le_of_ble_eq_true rfl⟩ kr
theorem k_X7_isItem_104 {Γ : Gm} {Ret : Option Value → Wd → Prop} {s0 : Int} {o0 o1 : Option Value} {w : Wd} (kr : Ret (some (vI s0)) w) (h1 : s0 = 0 ∨ s0 = 1 := by omega) : G Γ m_X7_isItem Ret 0 0 104 [o0, o1] [vI s0] w := by
  exact G_reti dX7_isItem_104 (by rcases h1 with q | q <;> rw [q]; exact Or.inl rfl; exact Or.inr rfl) ⟨rfl, Nat.le_of_ble_eq_true rfl⟩ kr
theorem k_X7_isItem_116 {Γ : Gm} {Ret : Option Value → Wd → Prop} {s0 : Int} {o0 o1 : Option Value} {w : Wd} (kr : Ret (some (vI s0)) w) (h1 : s0 = 0 ∨ s0 = 1 := by omega) : G Γ m_X7_isItem Ret 0 0 116 [o0, o1] [vI s0] w := by
  exact G_reti dX7_isItem_116 (by rcases h1 with q | q <;> rw [q]; exact Or.inl rfl; exact Or.inr rfl) ⟨rfl, Nat.le_of_ble_eq_true rfl⟩ kr
theorem k_X7_isItem_124 {Γ : Gm} {Ret : Option Value → Wd → Prop} {s0 : Int} {o0 o1 : Option Value} {w : Wd} (kr : Ret (some (vI s0)) w) (h1 : s0 = 0 ∨ s0 = 1 := by omega) : G Γ m_X7_isItem Ret 0 0 124 [o0, o1] [vI s0] w := by
  exact G_reti dX7_isItem_124 (by rcases h1 with q | q <;> rw [q]; exact Or.inl rfl; exact Or.inr rfl) ⟨rfl, Nat.le_of_ble_eq_true rfl⟩ kr
theorem k_X7_isItem_133 {Γ : Gm} {Ret : Option Value → Wd → Prop} {s0 : Int} {o0 o1 : Option Value} {w : Wd} (kr : Ret (some (vI s0)) w) (h1 : s0 = 0 ∨ s0 = 1 := by omega) : G Γ m_X7_isItem Ret 0 0 133 [o0, o1] [vI s0] w := by
  exact G_reti dX7_isItem_133 (by rcases h1 with q | q <;> rw [q]; exact Or.inl rfl; exact Or.inr rfl) ⟨rfl, Nat.le_of_ble_eq_true rfl⟩ kr
theorem k_X7_isItem_144 {Γ : Gm} {Ret : Option Value → Wd → Prop} {s0 : Int} {o0 o1 : Option Value} {w : Wd} (kr : Ret (some (vI s0)) w) (h1 : s0 = 0 ∨ s0 = 1 := by omega) : G Γ m_X7_isItem Ret 0 0 144 [o0, o1] [vI s0] w := by
  exact G_reti dX7_isItem_144 (by rcases h1 with q | q <;> rw [q]; exact Or.inl rfl; exact Or.inr rfl) ⟨rfl, Nat.le_of_ble_eq_true rfl⟩ kr
theorem k_X7_isItem_149 {Γ : Gm} {Ret : Option Value → Wd → Prop} {s0 : Int} {o0 o1 : Option Value} {w : Wd} (kr : Ret (some (vI s0)) w) (h1 : s0 = 0 ∨ s0 = 1 := by omega) : G Γ m_X7_isItem Ret 0 0 149 [o0, o1] [vI s0] w := by
  exact G_reti dX7_isItem_149 (by rcases h1 with q | q <;> rw [q]; exact Or.inl rfl; exact Or.inr rfl) ⟨rfl, Nat.le_of_ble_eq_true rfl⟩ kr
theorem k_X7_fault_0 {Γ : Gm} {Ret : Option Value → Wd → Prop} {p0 q1 n2 : Nat} {w : Wd} (km : G Γ m_X7_fault Ret 0 0 59 [some (vR p0), none] [] (stI (stI (stI (stI (stI (stI (stI (stI (stI w p0 2 0) p0 4 0) p0 5 0) q1 0 3) q1 1 60) q1 2 2) q1 3 12) q1 4 0) q1 5 3)) (h1 : sh w p0 = some (.inr 7) := by assumption) (h2 : wR w p0 8 = vR q1 := by assumption) (h3 : sh w q1 = some (.inl (0, n2)) := by assumption) (h4 : (0 : Int) ≤ 0 ∧ 0 < (n2 : Int) := by omega) (h5 : n2 < 2147483648 := by omega) (h6 : (0 : Int) ≤ 1 ∧ 1 < (n2 : Int) := by omega) (h7 : (0 : Int) ≤ 2 ∧ 2 < (n2 : Int) := by omega) (h8 : (0 : Int) ≤ 3 ∧ 3 < (n2 : Int) := by omega) (h9 : (0 : Int) ≤ 4 ∧ 4 < (n2 : Int) := by omega) (h10 : (0 : Int) ≤ 5 ∧ 5 < (n2 : Int) := by omega) : G Γ m_X7_fault Ret 0 0 0 [some (vR p0), none] [] w := by
  refine G_aload_n dX7_fault_0 rfl ?_
  refine G_const dX7_fault_1 ?_
  refine G_putI dX7_fault_2 fl_RX7_73 h1 rfl ?_
  refine G_aload_n dX7_fault_5 rfl ?_
  refine G_const dX7_fault_6 ?_
  refine G_putI dX7_fault_7 fl_RX7_80 h1 rfl ?_
  refine G_aload_n dX7_fault_10 rfl ?_
  refine G_const dX7_fault_11 ?_
  refine G_putI dX7_fault_12 fl_RX7_86 h1 rfl ?_
  refine G_aload_n dX7_fault_15 rfl ?_
  refine G_getR dX7_fault_16 fl_RX7_19 h1 rfl h2 ?_
  refine G_const dX7_fault_19 ?_
  refine G_const dX7_fault_20 ?_
  refine G_iast dX7_fault_21 h3 h4 h5 ?_
  refine G_aload_n dX7_fault_22 rfl ?_
  refine G_getR dX7_fault_23 fl_RX7_19 h1 rfl h2 ?_
  refine G_const dX7_fault_26 ?_
  refine G_bipush dX7_fault_27 (by decide +kernel) ?_
  refine G_iast dX7_fault_29 h3 h6 h5 ?_
  refine G_aload_n dX7_fault_30 rfl ?_
  refine G_getR dX7_fault_31 fl_RX7_19 h1 rfl h2 ?_
  refine G_const dX7_fault_34 ?_
  refine G_const dX7_fault_35 ?_
  refine G_iast dX7_fault_36 h3 h7 h5 ?_
  refine G_aload_n dX7_fault_37 rfl ?_
  refine G_getR dX7_fault_38 fl_RX7_19 h1 rfl h2 ?_
  refine G_const dX7_fault_41 ?_
  refine G_bipush dX7_fault_42 (by decide +kernel) ?_
  refine G_iast dX7_fault_44 h3 h8 h5 ?_
  refine G_aload_n dX7_fault_45 rfl ?_
  refine G_getR dX7_fault_46 fl_RX7_19 h1 rfl h2 ?_
  refine G_const dX7_fault_49 ?_
  refine G_const dX7_fault_50 ?_
  refine G_iast dX7_fault_51 h3 h9 h5 ?_
  refine G_aload_n dX7_fault_52 rfl ?_
  refine G_getR dX7_fault_53 fl_RX7_19 h1 rfl h2 ?_
  refine G_const dX7_fault_56 ?_
  refine G_const dX7_fault_57 ?_
  refine G_iast dX7_fault_58 h3 h10 h5 ?_
  exact km
theorem k_X7_fault_59 {Γ : Gm} {Ret : Option Value → Wd → Prop} {p0 : Nat} {o1 : Option Value} {w : Wd} (kt : (wI w p0 0) ≤ (wI w p0 2) → G Γ m_X7_fault Ret 0 0 87 [some (vR p0), o1] [] w) (kf : ¬ ((wI w p0 0) ≤ (wI w p0 2)) → G Γ m_X7_fault Ret 0 0 70 [some (vR p0), o1] [] w) (h1 : sh w p0 = some (.inr 7) := by assumption) (h2 : sm (wI w p0 2) := by omega) (h3 : sm (wI w p0 0) := by omega) : G Γ m_X7_fault Ret 0 0 59 [some (vR p0), o1] [] w := by
  refine G_aload_n dX7_fault_59 rfl ?_
  refine G_getI dX7_fault_60 fl_RX7_73 h1 rfl ?_
  refine G_aload_n dX7_fault_63 rfl ?_
  refine G_getI dX7_fault_64 fl_RX7_67 h1 rfl ?_
  exact G_icmp_ge dX7_fault_67 (by decide) h2 h3 kt kf
theorem k_X7_fault_87 {Γ : Gm} {Ret : Option Value → Wd → Prop} {o0 o1 : Option Value} {w : Wd} (kr : Ret (some (vI (-4))) w) : G Γ m_X7_fault Ret 0 0 87 [o0, o1] [] w := by
  refine G_bipush dX7_fault_87 (by decide +kernel) ?_
  exact G_reti dX7_fault_89 trivial ⟨rfl, Nat.le_of_ble_eq_true rfl⟩ kr
theorem k_X7_fault_70 {Γ : Gm} {Ret : Option Value → Wd → Prop} {p0 : Nat} {o1 : Option Value} {w : Wd} {Q : Int → Wd → Prop} (c2 : SpI Γ m_X7_isItem [vR p0] w Q) (kq : ∀ (z : Int) (u : Wd), Q z u → G Γ m_X7_fault Ret 0 0 79 [some (vR p0), some (vI (wI w p0 2))] [vI z] u) (h1 : sh w p0 = some (.inr 7) := by assumption) : G Γ m_X7_fault Ret 0 0 70 [some (vR p0), o1] [] w := by
  refine G_aload_n dX7_fault_70 rfl ?_
  refine G_getI dX7_fault_71 fl_RX7_73 h1 rfl ?_
  refine G_istore_n dX7_fault_74 (by decide) rfl ?_
  refine G_aload_n dX7_fault_75 rfl ?_
  exact G_VI (as := []) (st := []) n0_X7_isItem dX7_fault_76 ml_RX7_103 mc_X7_isItem rfl ⟨by decide, ⟨Nat.le_of_ble_eq_true rfl, Nat.le_of_ble_eq_true rfl⟩, Nat.le_of_ble_eq_true rfl⟩ h1 ⟨_, _, rfl⟩ c2 (fun z u hq => kq z u hq)
theorem k_X7_fault_79 {Γ : Gm} {Ret : Option Value → Wd → Prop} {a1 s0 : Int} {p0 : Nat} {w : Wd} (kt : s0 ≠ 0 → G Γ m_X7_fault Ret 0 0 84 [some (vR p0), some (vI a1)] [] w) (kf : s0 = 0 → G Γ m_X7_fault Ret 0 0 82 [some (vR p0), some (vI a1)] [] w) (h1 : sm s0 := by omega) : G Γ m_X7_fault Ret 0 0 79 [some (vR p0), some (vI a1)] [vI s0] w := by
  exact G_if_ne dX7_fault_79 (by decide) h1 kt kf
theorem k_X7_fault_84 {Γ : Gm} {Ret : Option Value → Wd → Prop} {p0 : Nat} {o1 : Option Value} {w : Wd} (km : G Γ m_X7_fault Ret 0 0 59 [some (vR p0), o1] [] w) : G Γ m_X7_fault Ret 0 0 84 [some (vR p0), o1] [] w := by
  refine G_goto dX7_fault_84 (tgt := 59) (by decide) ?_
  exact km
theorem k_X7_fault_82 {Γ : Gm} {Ret : Option Value → Wd → Prop} {a1 : Int} {o0 : Option Value} {w : Wd} (kr : Ret (some (vI a1)) w) : G Γ m_X7_fault Ret 0 0 82 [o0, some (vI a1)] [] w := by
  refine G_iload_n dX7_fault_82 rfl ?_
  exact G_reti dX7_fault_83 trivial ⟨rfl, Nat.le_of_ble_eq_true rfl⟩ kr
theorem k_X7_lay_0 {Γ : Gm} {Ret : Option Value → Wd → Prop} {p0 : Nat} {w : Wd} {Q : Int → Wd → Prop} (c2 : SpI Γ m_X7_fault [vR p0] w Q) (kq : ∀ (z : Int) (u : Wd), Q z u → G Γ m_X7_lay Ret 0 0 4 [some (vR p0), none] [vI z] u) (h1 : sh w p0 = some (.inr 7) := by assumption) : G Γ m_X7_lay Ret 0 0 0 [some (vR p0), none] [] w := by
  refine G_aload_n dX7_lay_0 rfl ?_
  exact G_VI (as := []) (st := []) n0_X7_fault dX7_lay_1 ml_RX7_106 mc_X7_fault rfl ⟨by decide, ⟨Nat.le_of_ble_eq_true rfl, Nat.le_of_ble_eq_true rfl⟩, Nat.le_of_ble_eq_true rfl⟩ h1 ⟨_, _, rfl⟩ c2 (fun z u hq => kq z u hq)
theorem k_X7_lay_4 {Γ : Gm} {Ret : Option Value → Wd → Prop} {s0 : Int} {p0 : Nat} {o1 : Option Value} {w : Wd} (kt : s0 ≠ (-4) → G Γ m_X7_lay Ret 0 0 16 [some (vR p0), o1] [] w) (kf : s0 = (-4) → G Γ m_X7_lay Ret 0 0 9 [some (vR p0), o1] [] w) (h1 : sm s0 := by omega) : G Γ m_X7_lay Ret 0 0 4 [some (vR p0), o1] [vI s0] w := by
  refine G_bipush dX7_lay_4 (by decide +kernel) ?_
  exact G_icmp_ne dX7_lay_6 (by decide) h1 (by decide) kt kf
theorem k_X7_lay_16 {Γ : Gm} {Ret : Option Value → Wd → Prop} {o0 o1 : Option Value} {w : Wd} (kr : Ret (some (vI (-2))) w) : G Γ m_X7_lay Ret 0 0 16 [o0, o1] [] w := by
  refine G_bipush dX7_lay_16 (by decide +kernel) ?_
  exact G_reti dX7_lay_18 trivial ⟨rfl, Nat.le_of_ble_eq_true rfl⟩ kr
theorem k_X7_lay_9 {Γ : Gm} {Ret : Option Value → Wd → Prop} {p0 : Nat} {o1 : Option Value} {w : Wd} (kt : (wI w p0 4) ≠ 0 → G Γ m_X7_lay Ret 0 0 19 [some (vR p0), o1] [] w) (kf : (wI w p0 4) = 0 → G Γ m_X7_lay Ret 0 0 16 [some (vR p0), o1] [] w) (h1 : sh w p0 = some (.inr 7) := by assumption) (h2 : sm (wI w p0 4) := by omega) : G Γ m_X7_lay Ret 0 0 9 [some (vR p0), o1] [] w := by
  refine G_aload_n dX7_lay_9 rfl ?_
  refine G_getI dX7_lay_10 fl_RX7_80 h1 rfl ?_
  exact G_if_ne dX7_lay_13 (by decide) h2 kt kf
theorem k_X7_lay_19 {Γ : Gm} {Ret : Option Value → Wd → Prop} {p0 q1 q2 : Nat} {o1 : Option Value} {w : Wd} {Q : Wd → Prop} (c4 : SpV Γ m_X7_bring [vR q1, vI 0, vR q2, vI 0, vI 36] (stI (stI w p0 9 (wI w p0 4)) p0 10 (wI w p0 5)) Q) (kq : ∀ u : Wd, Q u → G Γ m_X7_lay Ret 0 0 50 [some (vR p0), o1] [] u) (h1 : sh w p0 = some (.inr 7) := by assumption) (h2 : wR w p0 6 = vR q1 := by assumption) (h3 : wR w p0 11 = vR q2 := by assumption) : G Γ m_X7_lay Ret 0 0 19 [some (vR p0), o1] [] w := by
  refine G_aload_n dX7_lay_19 rfl ?_
  refine G_aload_n dX7_lay_20 rfl ?_
  refine G_getI dX7_lay_21 fl_RX7_80 h1 rfl ?_
  refine G_putI dX7_lay_24 fl_RX7_56 h1 rfl ?_
  refine G_aload_n dX7_lay_27 rfl ?_
  refine G_aload_n dX7_lay_28 rfl ?_
  refine G_getI dX7_lay_29 fl_RX7_86 h1 rfl ?_
  rw [wI_skip (by decide)]
  refine G_putI dX7_lay_32 fl_RX7_60 h1 rfl ?_
  refine G_aload_n dX7_lay_35 rfl ?_
  refine G_getR dX7_lay_36 fl_RX7_13 h1 rfl h2 ?_
  refine G_const dX7_lay_39 ?_
  refine G_aload_n dX7_lay_40 rfl ?_
  refine G_getR dX7_lay_41 fl_RX7_22 h1 rfl h3 ?_
  refine G_const dX7_lay_44 ?_
  refine G_bipush dX7_lay_45 (by decide +kernel) ?_
  exact G_SV (as := [vR q1, vI 0, vR q2, vI 0, vI 36]) (st := []) n0_X7_bring dX7_lay_47 ml_RX7_110 mc_X7_bring rfl ⟨by decide, ⟨Nat.le_of_ble_eq_true rfl, Nat.le_of_ble_eq_true rfl⟩, Nat.le_of_ble_eq_true rfl⟩ c4 (fun u hq => kq u hq)
theorem k_X7_lay_50 {Γ : Gm} {Ret : Option Value → Wd → Prop} {p0 q1 q2 : Nat} {o1 : Option Value} {w : Wd} {Q : Wd → Prop} (c4 : SpV Γ m_X7_bring [vR q1, vI 0, vR q2, vI 0, vI 12] w Q) (kq : ∀ u : Wd, Q u → G Γ m_X7_lay Ret 0 0 65 [some (vR p0), o1] [] u) (h1 : sh w p0 = some (.inr 7) := by assumption) (h2 : wR w p0 7 = vR q1 := by assumption) (h3 : wR w p0 12 = vR q2 := by assumption) : G Γ m_X7_lay Ret 0 0 50 [some (vR p0), o1] [] w := by
  refine G_aload_n dX7_lay_50 rfl ?_
  refine G_getR dX7_lay_51 fl_RX7_16 h1 rfl h2 ?_
  refine G_const dX7_lay_54 ?_
  refine G_aload_n dX7_lay_55 rfl ?_
  refine G_getR dX7_lay_56 fl_RX7_25 h1 rfl h3 ?_
  refine G_const dX7_lay_59 ?_
  refine G_bipush dX7_lay_60 (by decide +kernel) ?_
  exact G_SV (as := [vR q1, vI 0, vR q2, vI 0, vI 12]) (st := []) n0_X7_bring dX7_lay_62 ml_RX7_110 mc_X7_bring rfl ⟨by decide, ⟨Nat.le_of_ble_eq_true rfl, Nat.le_of_ble_eq_true rfl⟩, Nat.le_of_ble_eq_true rfl⟩ c4 (fun u hq => kq u hq)
theorem k_X7_lay_65 {Γ : Gm} {Ret : Option Value → Wd → Prop} {p0 q1 q2 : Nat} {o1 : Option Value} {w : Wd} {Q : Wd → Prop} (c4 : SpV Γ m_X7_bring [vR q1, vI 0, vR q2, vI 0, vI 6] w Q) (kq : ∀ u : Wd, Q u → G Γ m_X7_lay Ret 0 0 80 [some (vR p0), o1] [] u) (h1 : sh w p0 = some (.inr 7) := by assumption) (h2 : wR w p0 8 = vR q1 := by assumption) (h3 : wR w p0 13 = vR q2 := by assumption) : G Γ m_X7_lay Ret 0 0 65 [some (vR p0), o1] [] w := by
  refine G_aload_n dX7_lay_65 rfl ?_
  refine G_getR dX7_lay_66 fl_RX7_19 h1 rfl h2 ?_
  refine G_const dX7_lay_69 ?_
  refine G_aload_n dX7_lay_70 rfl ?_
  refine G_getR dX7_lay_71 fl_RX7_28 h1 rfl h3 ?_
  refine G_const dX7_lay_74 ?_
  refine G_bipush dX7_lay_75 (by decide +kernel) ?_
  exact G_SV (as := [vR q1, vI 0, vR q2, vI 0, vI 6]) (st := []) n0_X7_bring dX7_lay_77 ml_RX7_110 mc_X7_bring rfl ⟨by decide, ⟨Nat.le_of_ble_eq_true rfl, Nat.le_of_ble_eq_true rfl⟩, Nat.le_of_ble_eq_true rfl⟩ c4 (fun u hq => kq u hq)
theorem k_X7_lay_80 {Γ : Gm} {Ret : Option Value → Wd → Prop} {p0 : Nat} {o1 : Option Value} {w : Wd} (km : G Γ m_X7_lay Ret 0 0 82 [some (vR p0), some (vI 0)] [] w) : G Γ m_X7_lay Ret 0 0 80 [some (vR p0), o1] [] w := by
  refine G_const dX7_lay_80 ?_
  refine G_istore_n dX7_lay_81 (by decide) rfl ?_
  exact km
theorem k_X7_lay_82 {Γ : Gm} {Ret : Option Value → Wd → Prop} {a1 : Int} {p0 : Nat} {w : Wd} (kt : 32 ≤ a1 → G Γ m_X7_lay Ret 0 0 101 [some (vR p0), some (vI a1)] [] w) (kf : ¬ (32 ≤ a1) → G Γ m_X7_lay Ret 0 0 88 [some (vR p0), some (vI a1)] [] w) (h1 : sm a1 := by omega) : G Γ m_X7_lay Ret 0 0 82 [some (vR p0), some (vI a1)] [] w := by
  refine G_iload_n dX7_lay_82 rfl ?_
  refine G_bipush dX7_lay_83 (by decide +kernel) ?_
  exact G_icmp_ge dX7_lay_85 (by decide) h1 (by decide) kt kf
theorem k_X7_lay_101 {Γ : Gm} {Ret : Option Value → Wd → Prop} {p0 : Nat} {o1 : Option Value} {w : Wd} (kr : Ret (some (vI (wI w p0 9))) (stI (stI (stI w p0 20 0) p0 17 0) p0 19 0)) (h1 : sh w p0 = some (.inr 7) := by assumption) : G Γ m_X7_lay Ret 0 0 101 [some (vR p0), o1] [] w := by
  refine G_aload_n dX7_lay_101 rfl ?_
  refine G_const dX7_lay_102 ?_
  refine G_putI dX7_lay_103 fl_RX7_114 h1 rfl ?_
  refine G_aload_n dX7_lay_106 rfl ?_
  refine G_const dX7_lay_107 ?_
  refine G_putI dX7_lay_108 fl_RX7_117 h1 rfl ?_
  refine G_aload_n dX7_lay_111 rfl ?_
  refine G_const dX7_lay_112 ?_
  refine G_putI dX7_lay_113 fl_RX7_120 h1 rfl ?_
  refine G_aload_n dX7_lay_116 rfl ?_
  refine G_getI dX7_lay_117 fl_RX7_56 h1 rfl ?_
  rw [wI_skip (by decide)]
  rw [wI_skip (by decide)]
  rw [wI_skip (by decide)]
  exact G_reti dX7_lay_120 trivial ⟨rfl, Nat.le_of_ble_eq_true rfl⟩ kr
theorem k_X7_lay_88 {Γ : Gm} {Ret : Option Value → Wd → Prop} {a1 : Int} {p0 q1 n2 : Nat} {w : Wd} (km : G Γ m_X7_lay Ret 0 0 82 [some (vR p0), some (vI (a1 + 1))] [] (stI w q1 a1 0)) (h1 : sh w p0 = some (.inr 7) := by assumption) (h2 : wR w p0 14 = vR q1 := by assumption) (h3 : sh w q1 = some (.inl (0, n2)) := by assumption) (h4 : (0 : Int) ≤ a1 ∧ a1 < (n2 : Int) := by omega) (h5 : n2 < 2147483648 := by omega) : G Γ m_X7_lay Ret 0 0 88 [some (vR p0), some (vI a1)] [] w := by
  refine G_aload_n dX7_lay_88 rfl ?_
  refine G_getR dX7_lay_89 fl_RX7_31 h1 rfl h2 ?_
  refine G_iload_n dX7_lay_92 rfl ?_
  refine G_const dX7_lay_93 ?_
  refine G_iast dX7_lay_94 h3 h4 h5 ?_
  refine G_iinc dX7_lay_95 (by decide) rfl rfl ?_
  refine G_goto dX7_lay_98 (tgt := 82) (by decide) ?_
  exact km
theorem k_X7_coveredIn_0 {Γ : Gm} {Ret : Option Value → Wd → Prop} {p0 : Nat} {w : Wd} (km : G Γ m_X7_coveredIn Ret 0 0 4 [some (vR p0), some (vI 0), some (vI 0)] [] w) : G Γ m_X7_coveredIn Ret 0 0 0 [some (vR p0), none, none] [] w := by
  refine G_const dX7_coveredIn_0 ?_
  refine G_istore_n dX7_coveredIn_1 (by decide) rfl ?_
  refine G_const dX7_coveredIn_2 ?_
  refine G_istore_n dX7_coveredIn_3 (by decide) rfl ?_
  exact km
theorem k_X7_coveredIn_4 {Γ : Gm} {Ret : Option Value → Wd → Prop} {a1 a2 : Int} {p0 n1 : Nat} {w : Wd} (kt : (wI w p0 0) ≤ a2 → G Γ m_X7_coveredIn Ret 0 0 25 [some (vR p0), some (vI a1), some (vI a2)] [] w) (kf : ¬ ((wI w p0 0) ≤ a2) → G Γ m_X7_coveredIn Ret 0 0 11 [some (vR p0), some (vI a1), some (vI a2)] [] w) (h1 : sh w p0 = some (.inl (0, n1)) := by assumption) (h2 : (0 : Int) ≤ 0 ∧ 0 < (n1 : Int) := by omega) (h3 : n1 < 2147483648 := by omega) (h4 : sm a2 := by omega) (h5 : sm (wI w p0 0) := by omega) : G Γ m_X7_coveredIn Ret 0 0 4 [some (vR p0), some (vI a1), some (vI a2)] [] w := by
  refine G_iload_n dX7_coveredIn_4 rfl ?_
  refine G_aload_n dX7_coveredIn_5 rfl ?_
  refine G_const dX7_coveredIn_6 ?_
  refine G_iald dX7_coveredIn_7 h1 h2 h3 ?_
  exact G_icmp_ge dX7_coveredIn_8 (by decide) h4 h5 kt kf
theorem k_X7_coveredIn_25 {Γ : Gm} {Ret : Option Value → Wd → Prop} {a1 : Int} {o0 o2 : Option Value} {w : Wd} (kr : Ret (some (vI a1)) w) : G Γ m_X7_coveredIn Ret 0 0 25 [o0, some (vI a1), o2] [] w := by
  refine G_iload_n dX7_coveredIn_25 rfl ?_
  exact G_reti dX7_coveredIn_26 trivial ⟨rfl, Nat.le_of_ble_eq_true rfl⟩ kr
theorem k_X7_coveredIn_11 {Γ : Gm} {Ret : Option Value → Wd → Prop} {a1 a2 : Int} {p0 n1 : Nat} {w : Wd} (km : G Γ m_X7_coveredIn Ret 0 0 4 [some (vR p0), some (vI (a1 + (wI w p0 (1 + a2)))), some (vI (a2 + 1))] [] w) (h1 : sh w p0 = some (.inl (0, n1)) := by assumption) (h2 : (0 : Int) ≤ (1 + a2) ∧ (1 + a2) < (n1 : Int) := by omega) (h3 : n1 < 2147483648 := by omega) : G Γ m_X7_coveredIn Ret 0 0 11 [some (vR p0), some (vI a1), some (vI a2)] [] w := by
  refine G_iload_n dX7_coveredIn_11 rfl ?_
  refine G_aload_n dX7_coveredIn_12 rfl ?_
  refine G_const dX7_coveredIn_13 ?_
  refine G_iload_n dX7_coveredIn_14 rfl ?_
  refine G_iadd dX7_coveredIn_15 ?_
  refine G_iald dX7_coveredIn_16 h1 h2 h3 ?_
  refine G_iadd dX7_coveredIn_17 ?_
  refine G_istore_n dX7_coveredIn_18 (by decide) rfl ?_
  refine G_iinc dX7_coveredIn_19 (by decide) rfl rfl ?_
  refine G_goto dX7_coveredIn_22 (tgt := 4) (by decide) ?_
  exact km
theorem k_X7_rollIn_0 {Γ : Gm} {Ret : Option Value → Wd → Prop} {p0 p1 q1 n2 : Nat} {w : Wd} (km : G Γ m_X7_rollIn Ret 0 0 9 [some (vR p0), some (vR p1), some (vI (wI w q1 1)), some (vI 0)] [] w) (h1 : sh w p0 = some (.inr 7) := by assumption) (h2 : wR w p0 13 = vR q1 := by assumption) (h3 : sh w q1 = some (.inl (0, n2)) := by assumption) (h4 : (0 : Int) ≤ 1 ∧ 1 < (n2 : Int) := by omega) (h5 : n2 < 2147483648 := by omega) : G Γ m_X7_rollIn Ret 0 0 0 [some (vR p0), some (vR p1), none, none] [] w := by
  refine G_aload_n dX7_rollIn_0 rfl ?_
  refine G_getR dX7_rollIn_1 fl_RX7_28 h1 rfl h2 ?_
  refine G_const dX7_rollIn_4 ?_
  refine G_iald dX7_rollIn_5 h3 h4 h5 ?_
  refine G_istore_n dX7_rollIn_6 (by decide) rfl ?_
  refine G_const dX7_rollIn_7 ?_
  refine G_istore_n dX7_rollIn_8 (by decide) rfl ?_
  exact km
theorem k_X7_rollIn_9 {Γ : Gm} {Ret : Option Value → Wd → Prop} {a2 a3 : Int} {p1 n1 : Nat} {o0 : Option Value} {w : Wd} (kt : (wI w p1 0) ≤ a3 → G Γ m_X7_rollIn Ret 0 0 31 [o0, some (vR p1), some (vI a2), some (vI a3)] [] w) (kf : ¬ ((wI w p1 0) ≤ a3) → G Γ m_X7_rollIn Ret 0 0 16 [o0, some (vR p1), some (vI a2), some (vI a3)] [] w) (h1 : sh w p1 = some (.inl (0, n1)) := by assumption) (h2 : (0 : Int) ≤ 0 ∧ 0 < (n1 : Int) := by omega) (h3 : n1 < 2147483648 := by omega) (h4 : sm a3 := by omega) (h5 : sm (wI w p1 0) := by omega) : G Γ m_X7_rollIn Ret 0 0 9 [o0, some (vR p1), some (vI a2), some (vI a3)] [] w := by
  refine G_iload_n dX7_rollIn_9 rfl ?_
  refine G_aload_n dX7_rollIn_10 rfl ?_
  refine G_const dX7_rollIn_11 ?_
  refine G_iald dX7_rollIn_12 h1 h2 h3 ?_
  exact G_icmp_ge dX7_rollIn_13 (by decide) h4 h5 kt kf
theorem k_X7_rollIn_31 {Γ : Gm} {Ret : Option Value → Wd → Prop} {a2 : Int} {o0 o1 o3 : Option Value} {w : Wd} (kr : Ret (some (vI a2)) w) : G Γ m_X7_rollIn Ret 0 0 31 [o0, o1, some (vI a2), o3] [] w := by
  refine G_iload_n dX7_rollIn_31 rfl ?_
  exact G_reti dX7_rollIn_32 trivial ⟨rfl, Nat.le_of_ble_eq_true rfl⟩ kr
theorem k_X7_rollIn_16 {Γ : Gm} {Ret : Option Value → Wd → Prop} {a2 a3 : Int} {p1 n1 : Nat} {o0 : Option Value} {w : Wd} (km : G Γ m_X7_rollIn Ret 0 0 9 [o0, some (vR p1), some (vI (a2 - (wI w p1 (13 + a3)))), some (vI (a3 + 1))] [] w) (h1 : sh w p1 = some (.inl (0, n1)) := by assumption) (h2 : (0 : Int) ≤ (13 + a3) ∧ (13 + a3) < (n1 : Int) := by omega) (h3 : n1 < 2147483648 := by omega) : G Γ m_X7_rollIn Ret 0 0 16 [o0, some (vR p1), some (vI a2), some (vI a3)] [] w := by
  refine G_iload_n dX7_rollIn_16 rfl ?_
  refine G_aload_n dX7_rollIn_17 rfl ?_
  refine G_bipush dX7_rollIn_18 (by decide +kernel) ?_
  refine G_iload_n dX7_rollIn_20 rfl ?_
  refine G_iadd dX7_rollIn_21 ?_
  refine G_iald dX7_rollIn_22 h1 h2 h3 ?_
  refine G_isub dX7_rollIn_23 ?_
  refine G_istore_n dX7_rollIn_24 (by decide) rfl ?_
  refine G_iinc dX7_rollIn_25 (by decide) rfl rfl ?_
  refine G_goto dX7_rollIn_28 (tgt := 9) (by decide) ?_
  exact km
theorem k_X7_lengthOf_0 {Γ : Gm} {Ret : Option Value → Wd → Prop} {a1 : Int} {p0 : Nat} {w : Wd} (km : G Γ m_X7_lengthOf Ret 0 0 4 [some (vR p0), some (vI a1), some (vI 0), some (vI 0)] [] w) : G Γ m_X7_lengthOf Ret 0 0 0 [some (vR p0), some (vI a1), none, none] [] w := by
  refine G_const dX7_lengthOf_0 ?_
  refine G_istore_n dX7_lengthOf_1 (by decide) rfl ?_
  refine G_const dX7_lengthOf_2 ?_
  refine G_istore_n dX7_lengthOf_3 (by decide) rfl ?_
  exact km
theorem k_X7_lengthOf_4 {Γ : Gm} {Ret : Option Value → Wd → Prop} {a1 a2 a3 : Int} {p0 q1 n2 : Nat} {w : Wd} (kt : (wI w q1 0) ≤ a3 → G Γ m_X7_lengthOf Ret 0 0 38 [some (vR p0), some (vI a1), some (vI a2), some (vI a3)] [] w) (kf : ¬ ((wI w q1 0) ≤ a3) → G Γ m_X7_lengthOf Ret 0 0 14 [some (vR p0), some (vI a1), some (vI a2), some (vI a3)] [] w) (h1 : sh w p0 = some (.inr 7) := by assumption) (h2 : wR w p0 14 = vR q1 := by assumption) (h3 : sh w q1 = some (.inl (0, n2)) := by assumption) (h4 : (0 : Int) ≤ 0 ∧ 0 < (n2 : Int) := by omega) (h5 : n2 < 2147483648 := by omega) (h6 : sm a3 := by omega) (h7 : sm (wI w q1 0) := by omega) : G Γ m_X7_lengthOf Ret 0 0 4 [some (vR p0), some (vI a1), some (vI a2), some (vI a3)] [] w := by
  refine G_iload_n dX7_lengthOf_4 rfl ?_
  refine G_aload_n dX7_lengthOf_5 rfl ?_
  refine G_getR dX7_lengthOf_6 fl_RX7_31 h1 rfl h2 ?_
  refine G_const dX7_lengthOf_9 ?_
  refine G_iald dX7_lengthOf_10 h3 h4 h5 ?_
  exact G_icmp_ge dX7_lengthOf_11 (by decide) h6 h7 kt kf
theorem k_X7_lengthOf_38 {Γ : Gm} {Ret : Option Value → Wd → Prop} {o0 o1 o2 o3 : Option Value} {w : Wd} (kr : Ret (some (vI (-4))) w) : G Γ m_X7_lengthOf Ret 0 0 38 [o0, o1, o2, o3] [] w := by
  refine G_bipush dX7_lengthOf_38 (by decide +kernel) ?_
  exact G_reti dX7_lengthOf_40 trivial ⟨rfl, Nat.le_of_ble_eq_true rfl⟩ kr
theorem k_X7_lengthOf_14 {Γ : Gm} {Ret : Option Value → Wd → Prop} {a1 a2 a3 : Int} {p0 q1 n2 : Nat} {w : Wd} (kt : (a2 + (wI w q1 (1 + a3))) ≤ a1 → G Γ m_X7_lengthOf Ret 0 0 32 [some (vR p0), some (vI a1), some (vI (a2 + (wI w q1 (1 + a3)))), some (vI a3)] [] w) (kf : ¬ ((a2 + (wI w q1 (1 + a3))) ≤ a1) → G Γ m_X7_lengthOf Ret 0 0 30 [some (vR p0), some (vI a1), some (vI (a2 + (wI w q1 (1 + a3)))), some (vI a3)] [] w) (h1 : sh w p0 = some (.inr 7) := by assumption) (h2 : wR w p0 14 = vR q1 := by assumption) (h3 : sh w q1 = some (.inl (0, n2)) := by assumption) (h4 : (0 : Int) ≤ (1 + a3) ∧ (1 + a3) < (n2 : Int) := by omega) (h5 : n2 < 2147483648 := by omega) (h6 : sm a1 := by omega) (h7 : sm (a2 + (wI w q1 (1 + a3))) := by omega) : G Γ m_X7_lengthOf Ret 0 0 14 [some (vR p0), some (vI a1), some (vI a2), some (vI a3)] [] w := by
  refine G_iload_n dX7_lengthOf_14 rfl ?_
  refine G_aload_n dX7_lengthOf_15 rfl ?_
  refine G_getR dX7_lengthOf_16 fl_RX7_31 h1 rfl h2 ?_
  refine G_const dX7_lengthOf_19 ?_
  refine G_iload_n dX7_lengthOf_20 rfl ?_
  refine G_iadd dX7_lengthOf_21 ?_
  refine G_iald dX7_lengthOf_22 h3 h4 h5 ?_
  refine G_iadd dX7_lengthOf_23 ?_
  refine G_istore_n dX7_lengthOf_24 (by decide) rfl ?_
  refine G_iload_n dX7_lengthOf_25 rfl ?_
  refine G_iload_n dX7_lengthOf_26 rfl ?_
  exact G_icmp_ge dX7_lengthOf_27 (by decide) h6 h7 kt kf
theorem k_X7_lengthOf_32 {Γ : Gm} {Ret : Option Value → Wd → Prop} {a1 a2 a3 : Int} {p0 : Nat} {w : Wd} (km : G Γ m_X7_lengthOf Ret 0 0 4 [some (vR p0), some (vI a1), some (vI a2), some (vI (a3 + 1))] [] w) : G Γ m_X7_lengthOf Ret 0 0 32 [some (vR p0), some (vI a1), some (vI a2), some (vI a3)] [] w := by
  refine G_iinc dX7_lengthOf_32 (by decide) rfl rfl ?_
  refine G_goto dX7_lengthOf_35 (tgt := 4) (by decide) ?_
  exact km
theorem k_X7_lengthOf_30 {Γ : Gm} {Ret : Option Value → Wd → Prop} {a3 : Int} {o0 o1 o2 : Option Value} {w : Wd} (kr : Ret (some (vI a3)) w) : G Γ m_X7_lengthOf Ret 0 0 30 [o0, o1, o2, some (vI a3)] [] w := by
  refine G_iload_n dX7_lengthOf_30 rfl ?_
  exact G_reti dX7_lengthOf_31 trivial ⟨rfl, Nat.le_of_ble_eq_true rfl⟩ kr
theorem k_X7_strip_0 {Γ : Gm} {Ret : Option Value → Wd → Prop} {a1 a2 z1 : Int} {p0 : Nat} {w : Wd} (c2 : SpP Γ m_X7_in [vI a1, vI 0, vI ((wI w p0 9) - 1)] w z1) (kt : z1 = 0 → G Γ m_X7_strip Ret 0 0 23 [some (vR p0), some (vI a1), some (vI a2), none, none] [] w) (kf : ¬ (z1 = 0) → G Γ m_X7_strip Ret 0 0 14 [some (vR p0), some (vI a1), some (vI a2), none, none] [] w) (h1 : sh w p0 = some (.inr 7) := by assumption) (h3 : sm z1 := by omega) : G Γ m_X7_strip Ret 0 0 0 [some (vR p0), some (vI a1), some (vI a2), none, none] [] w := by
  refine G_iload_n dX7_strip_0 rfl ?_
  refine G_const dX7_strip_1 ?_
  refine G_aload_n dX7_strip_2 rfl ?_
  refine G_getI dX7_strip_3 fl_RX7_56 h1 rfl ?_
  refine G_const dX7_strip_6 ?_
  refine G_isub dX7_strip_7 ?_
  refine G_SP (as := [vI a1, vI 0, vI ((wI w p0 9) - 1)]) (st := []) n0_X7_in dX7_strip_8 ml_RX7_63 mc_X7_in rfl ⟨by decide, ⟨Nat.le_of_ble_eq_true rfl, Nat.le_of_ble_eq_true rfl⟩, Nat.le_of_ble_eq_true rfl⟩ c2 ?_
  exact G_if_eq dX7_strip_11 (by decide) h3 kt kf
theorem k_X7_strip_23 {Γ : Gm} {Ret : Option Value → Wd → Prop} {o0 o1 o2 o3 o4 : Option Value} {w : Wd} (kr : Ret (some (vI (-1))) w) : G Γ m_X7_strip Ret 0 0 23 [o0, o1, o2, o3, o4] [] w := by
  refine G_const dX7_strip_23 ?_
  exact G_reti dX7_strip_24 trivial ⟨rfl, Nat.le_of_ble_eq_true rfl⟩ kr
theorem k_X7_strip_14 {Γ : Gm} {Ret : Option Value → Wd → Prop} {a1 a2 z1 : Int} {p0 : Nat} {o3 o4 : Option Value} {w : Wd} (c1 : SpP Γ m_X7_in [vI a2, vI 0, vI 4] w z1) (kt : z1 ≠ 0 → G Γ m_X7_strip Ret 0 0 25 [some (vR p0), some (vI a1), some (vI a2), o3, o4] [] w) (kf : z1 = 0 → G Γ m_X7_strip Ret 0 0 23 [some (vR p0), some (vI a1), some (vI a2), o3, o4] [] w) (h2 : sm z1 := by omega) : G Γ m_X7_strip Ret 0 0 14 [some (vR p0), some (vI a1), some (vI a2), o3, o4] [] w := by
  refine G_iload_n dX7_strip_14 rfl ?_
  refine G_const dX7_strip_15 ?_
  refine G_const dX7_strip_16 ?_
  refine G_SP (as := [vI a2, vI 0, vI 4]) (st := []) n0_X7_in dX7_strip_17 ml_RX7_63 mc_X7_in rfl ⟨by decide, ⟨Nat.le_of_ble_eq_true rfl, Nat.le_of_ble_eq_true rfl⟩, Nat.le_of_ble_eq_true rfl⟩ c1 ?_
  exact G_if_ne dX7_strip_20 (by decide) h2 kt kf
theorem k_X7_strip_25 {Γ : Gm} {Ret : Option Value → Wd → Prop} {a1 a2 : Int} {p0 : Nat} {o3 o4 : Option Value} {w : Wd} (kt : 3 ≤ a2 → G Γ m_X7_strip Ret 0 0 41 [some (vR p0), some (vI a1), some (vI a2), o3, o4] [] w) (kf : ¬ (3 ≤ a2) → G Γ m_X7_strip Ret 0 0 30 [some (vR p0), some (vI a1), some (vI a2), o3, o4] [] w) (h1 : sm a2 := by omega) : G Γ m_X7_strip Ret 0 0 25 [some (vR p0), some (vI a1), some (vI a2), o3, o4] [] w := by
  refine G_iload_n dX7_strip_25 rfl ?_
  refine G_const dX7_strip_26 ?_
  exact G_icmp_ge dX7_strip_27 (by decide) h1 (by decide) kt kf
theorem k_X7_strip_41 {Γ : Gm} {Ret : Option Value → Wd → Prop} {a1 a2 z1 z2 : Int} {p0 : Nat} {o3 o4 : Option Value} {w : Wd} (c2 : SpP Γ m_X7_lengthOf [vR p0, vI a1] w z1) (c3 : SpP Γ m_X7_lengthOf [vR p0, vI (a1 + 1)] w z2) (kt : a2 ≠ 3 → G Γ m_X7_strip Ret 0 0 65 [some (vR p0), some (vI a1), some (vI a2), some (vI z1), some (vI z2)] [] w) (kf : a2 = 3 → G Γ m_X7_strip Ret 0 0 61 [some (vR p0), some (vI a1), some (vI a2), some (vI z1), some (vI z2)] [] w) (h1 : sh w p0 = some (.inr 7) := by assumption) (h4 : sm a2 := by omega) : G Γ m_X7_strip Ret 0 0 41 [some (vR p0), some (vI a1), some (vI a2), o3, o4] [] w := by
  refine G_aload_n dX7_strip_41 rfl ?_
  refine G_iload_n dX7_strip_42 rfl ?_
  refine G_VP (as := [vI a1]) (st := []) n0_X7_lengthOf dX7_strip_43 ml_RX7_123 mc_X7_lengthOf rfl ⟨by decide, ⟨Nat.le_of_ble_eq_true rfl, Nat.le_of_ble_eq_true rfl⟩, Nat.le_of_ble_eq_true rfl⟩ h1 ⟨_, _, rfl⟩ c2 ?_
  refine G_istore_n dX7_strip_46 (by decide) rfl ?_
  refine G_aload_n dX7_strip_47 rfl ?_
  refine G_iload_n dX7_strip_48 rfl ?_
  refine G_const dX7_strip_49 ?_
  refine G_iadd dX7_strip_50 ?_
  refine G_VP (as := [vI (a1 + 1)]) (st := []) n0_X7_lengthOf dX7_strip_51 ml_RX7_123 mc_X7_lengthOf rfl ⟨by decide, ⟨Nat.le_of_ble_eq_true rfl, Nat.le_of_ble_eq_true rfl⟩, Nat.le_of_ble_eq_true rfl⟩ h1 ⟨_, _, rfl⟩ c3 ?_
  refine G_istore dX7_strip_54 (by decide) rfl ?_
  refine G_iload_n dX7_strip_56 rfl ?_
  refine G_const dX7_strip_57 ?_
  exact G_icmp_ne dX7_strip_58 (by decide) h4 (by decide) kt kf
theorem k_X7_strip_30 {Γ : Gm} {Ret : Option Value → Wd → Prop} {a1 a2 : Int} {p0 q1 n2 : Nat} {o3 o4 : Option Value} {w : Wd} (kr : Ret (some (vI (wI w q1 ((3 * a1) + a2)))) w) (h1 : sh w p0 = some (.inr 7) := by assumption) (h2 : wR w p0 11 = vR q1 := by assumption) (h3 : sh w q1 = some (.inl (0, n2)) := by assumption) (h4 : (0 : Int) ≤ ((3 * a1) + a2) ∧ ((3 * a1) + a2) < (n2 : Int) := by omega) (h5 : n2 < 2147483648 := by omega) : G Γ m_X7_strip Ret 0 0 30 [some (vR p0), some (vI a1), some (vI a2), o3, o4] [] w := by
  refine G_aload_n dX7_strip_30 rfl ?_
  refine G_getR dX7_strip_31 fl_RX7_22 h1 rfl h2 ?_
  refine G_const dX7_strip_34 ?_
  refine G_iload_n dX7_strip_35 rfl ?_
  refine G_imul dX7_strip_36 ?_
  refine G_iload_n dX7_strip_37 rfl ?_
  refine G_iadd dX7_strip_38 ?_
  refine G_iald dX7_strip_39 h3 h4 h5 ?_
  exact G_reti dX7_strip_40 trivial ⟨rfl, Nat.le_of_ble_eq_true rfl⟩ kr
theorem k_X7_strip_65 {Γ : Gm} {Ret : Option Value → Wd → Prop} {a3 a4 : Int} {o0 o1 o2 : Option Value} {w : Wd} (kt : a3 = (-4) → G Γ m_X7_strip Ret 0 0 88 [o0, o1, o2, some (vI a3), some (vI a4)] [] w) (kf : ¬ (a3 = (-4)) → G Γ m_X7_strip Ret 0 0 71 [o0, o1, o2, some (vI a3), some (vI a4)] [] w) (h1 : sm a3 := by omega) : G Γ m_X7_strip Ret 0 0 65 [o0, o1, o2, some (vI a3), some (vI a4)] [] w := by
  refine G_iload_n dX7_strip_65 rfl ?_
  refine G_bipush dX7_strip_66 (by decide +kernel) ?_
  exact G_icmp_eq dX7_strip_68 (by decide) h1 (by decide) kt kf
theorem k_X7_strip_61 {Γ : Gm} {Ret : Option Value → Wd → Prop} {a3 : Int} {o0 o1 o2 o4 : Option Value} {w : Wd} (kr : Ret (some (vI a3)) w) : G Γ m_X7_strip Ret 0 0 61 [o0, o1, o2, some (vI a3), o4] [] w := by
  refine G_iload_n dX7_strip_61 rfl ?_
  refine G_goto dX7_strip_62 (tgt := 89) (by decide) ?_
  exact G_reti dX7_strip_89 trivial ⟨rfl, Nat.le_of_ble_eq_true rfl⟩ kr
theorem k_X7_strip_88 {Γ : Gm} {Ret : Option Value → Wd → Prop} {o0 o1 o2 o3 o4 : Option Value} {w : Wd} (kr : Ret (some (vI 0)) w) : G Γ m_X7_strip Ret 0 0 88 [o0, o1, o2, o3, o4] [] w := by
  refine G_const dX7_strip_88 ?_
  exact G_reti dX7_strip_89 trivial ⟨rfl, Nat.le_of_ble_eq_true rfl⟩ kr
theorem k_X7_strip_71 {Γ : Gm} {Ret : Option Value → Wd → Prop} {a3 a4 : Int} {o0 o1 o2 : Option Value} {w : Wd} (kt : a4 = (-4) → G Γ m_X7_strip Ret 0 0 88 [o0, o1, o2, some (vI a3), some (vI a4)] [] w) (kf : ¬ (a4 = (-4)) → G Γ m_X7_strip Ret 0 0 78 [o0, o1, o2, some (vI a3), some (vI a4)] [] w) (h1 : sm a4 := by omega) : G Γ m_X7_strip Ret 0 0 71 [o0, o1, o2, some (vI a3), some (vI a4)] [] w := by
  refine G_iload dX7_strip_71 rfl ?_
  refine G_bipush dX7_strip_73 (by decide +kernel) ?_
  exact G_icmp_eq dX7_strip_75 (by decide) h1 (by decide) kt kf
theorem k_X7_strip_78 {Γ : Gm} {Ret : Option Value → Wd → Prop} {a3 a4 : Int} {o0 o1 o2 : Option Value} {w : Wd} (kt : a4 = a3 → G Γ m_X7_strip Ret 0 0 88 [o0, o1, o2, some (vI a3), some (vI a4)] [] w) (kf : ¬ (a4 = a3) → G Γ m_X7_strip Ret 0 0 84 [o0, o1, o2, some (vI a3), some (vI a4)] [] w) (h1 : sm a4 := by omega) (h2 : sm a3 := by omega) : G Γ m_X7_strip Ret 0 0 78 [o0, o1, o2, some (vI a3), some (vI a4)] [] w := by
  refine G_iload dX7_strip_78 rfl ?_
  refine G_iload_n dX7_strip_80 rfl ?_
  exact G_icmp_eq dX7_strip_81 (by decide) h1 h2 kt kf
theorem k_X7_strip_84 {Γ : Gm} {Ret : Option Value → Wd → Prop} {o0 o1 o2 o3 o4 : Option Value} {w : Wd} (kr : Ret (some (vI 1)) w) : G Γ m_X7_strip Ret 0 0 84 [o0, o1, o2, o3, o4] [] w := by
  refine G_const dX7_strip_84 ?_
  refine G_goto dX7_strip_85 (tgt := 89) (by decide) ?_
  exact G_reti dX7_strip_89 trivial ⟨rfl, Nat.le_of_ble_eq_true rfl⟩ kr
theorem k_X7_isHooked_0 {Γ : Gm} {Ret : Option Value → Wd → Prop} {a1 z2 : Int} {p0 n1 : Nat} {w : Wd} (c4 : SpP Γ m_X7_has [vI (wI w p0 29), vI a1] w z2) (kr : Ret (some (vI z2)) w) (h1 : sh w p0 = some (.inl (0, n1)) := by assumption) (h2 : (0 : Int) ≤ 29 ∧ 29 < (n1 : Int) := by omega) (h3 : n1 < 2147483648 := by omega) (h5 : z2 = 0 ∨ z2 = 1 := by omega) : G Γ m_X7_isHooked Ret 0 0 0 [some (vR p0), some (vI a1)] [] w := by
  refine G_aload_n dX7_isHooked_0 rfl ?_
  refine G_bipush dX7_isHooked_1 (by decide +kernel) ?_
  refine G_iald dX7_isHooked_3 h1 h2 h3 ?_
  refine G_iload_n dX7_isHooked_4 rfl ?_
  refine G_SP (as := [vI (wI w p0 29), vI a1]) (st := []) n0_X7_has dX7_isHooked_5 ml_RX7_126 mc_X7_has rfl ⟨by decide, ⟨Nat.le_of_ble_eq_true rfl, Nat.le_of_ble_eq_true rfl⟩, Nat.le_of_ble_eq_true rfl⟩ c4 ?_
  exact G_reti dX7_isHooked_8 (by rcases h5 with q | q <;> rw [q]; exact Or.inl rfl; exact Or.inr rfl) ⟨rfl, Nat.le_of_ble_eq_true rfl⟩ kr
theorem k_X7_wall_0 {Γ : Gm} {Ret : Option Value → Wd → Prop} {a1 a2 z1 : Int} {p0 : Nat} {w : Wd} (c1 : SpP Γ m_X7_in [vI a1, vI 0, vI 3] w z1) (kt : z1 ≠ 0 → G Γ m_X7_wall Ret 0 0 11 [some (vR p0), some (vI a1), some (vI a2)] [] w) (kf : z1 = 0 → G Γ m_X7_wall Ret 0 0 9 [some (vR p0), some (vI a1), some (vI a2)] [] w) (h2 : sm z1 := by omega) : G Γ m_X7_wall Ret 0 0 0 [some (vR p0), some (vI a1), some (vI a2)] [] w := by
  refine G_iload_n dX7_wall_0 rfl ?_
  refine G_const dX7_wall_1 ?_
  refine G_const dX7_wall_2 ?_
  refine G_SP (as := [vI a1, vI 0, vI 3]) (st := []) n0_X7_in dX7_wall_3 ml_RX7_63 mc_X7_in rfl ⟨by decide, ⟨Nat.le_of_ble_eq_true rfl, Nat.le_of_ble_eq_true rfl⟩, Nat.le_of_ble_eq_true rfl⟩ c1 ?_
  exact G_if_ne dX7_wall_6 (by decide) h2 kt kf
theorem k_X7_wall_11 {Γ : Gm} {Ret : Option Value → Wd → Prop} {a1 a2 : Int} {p0 : Nat} {w : Wd} (k44 : a2 = 0 → G Γ m_X7_wall Ret 0 0 44 [some (vR p0), some (vI a1), some (vI a2)] [] w) (k54 : a2 = 1 → G Γ m_X7_wall Ret 0 0 54 [some (vR p0), some (vI a1), some (vI a2)] [] w) (k66 : a2 = 2 → G Γ m_X7_wall Ret 0 0 66 [some (vR p0), some (vI a1), some (vI a2)] [] w) (k78 : a2 = 3 → G Γ m_X7_wall Ret 0 0 78 [some (vR p0), some (vI a1), some (vI a2)] [] w) (kd : (a2 ≠ 0 ∧ a2 ≠ 1 ∧ a2 ≠ 2 ∧ a2 ≠ 3) → G Γ m_X7_wall Ret 0 0 108 [some (vR p0), some (vI a1), some (vI a2)] [] w) (h1 : sm a2 := by omega) : G Γ m_X7_wall Ret 0 0 11 [some (vR p0), some (vI a1), some (vI a2)] [] w := by
  refine G_iload_n dX7_wall_11 rfl ?_
  by_cases hq : a2 < 0 ∨ 3 < a2
  · exact G_tableOut dX7_wall_12 h1 hq (by decide) (kd (by omega))
  by_cases hv0 : a2 = 0
  · exact G_tableIn (off := 32) (tgt := 44) dX7_wall_12 h1 (by omega) (by omega) (by rw [hv0]; rfl) (by decide) (k44 (by omega))
  by_cases hv1 : a2 = 1
  · exact G_tableIn (off := 42) (tgt := 54) dX7_wall_12 h1 (by omega) (by omega) (by rw [hv1]; rfl) (by decide) (k54 (by omega))
  by_cases hv2 : a2 = 2
  · exact G_tableIn (off := 54) (tgt := 66) dX7_wall_12 h1 (by omega) (by omega) (by rw [hv2]; rfl) (by decide) (k66 (by omega))
  by_cases hv3 : a2 = 3
  · exact G_tableIn (off := 66) (tgt := 78) dX7_wall_12 h1 (by omega) (by omega) (by rw [hv3]; rfl) (by decide) (k78 (by omega))
  exact absurd hq (by omega)
theorem k_X7_wall_9 {Γ : Gm} {Ret : Option Value → Wd → Prop} {o0 o1 o2 : Option Value} {w : Wd} (kr : Ret (some (vI (-1))) w) : G Γ m_X7_wall Ret 0 0 9 [o0, o1, o2] [] w := by
  refine G_const dX7_wall_9 ?_
  exact G_reti dX7_wall_10 trivial ⟨rfl, Nat.le_of_ble_eq_true rfl⟩ kr
theorem k_X7_wall_44 {Γ : Gm} {Ret : Option Value → Wd → Prop} {a1 : Int} {p0 q1 n2 : Nat} {o2 : Option Value} {w : Wd} (kr : Ret (some (vI (wI w q1 (25 + a1)))) w) (h1 : sh w p0 = some (.inr 7) := by assumption) (h2 : wR w p0 14 = vR q1 := by assumption) (h3 : sh w q1 = some (.inl (0, n2)) := by assumption) (h4 : (0 : Int) ≤ (25 + a1) ∧ (25 + a1) < (n2 : Int) := by omega) (h5 : n2 < 2147483648 := by omega) : G Γ m_X7_wall Ret 0 0 44 [some (vR p0), some (vI a1), o2] [] w := by
  refine G_aload_n dX7_wall_44 rfl ?_
  refine G_getR dX7_wall_45 fl_RX7_31 h1 rfl h2 ?_
  refine G_bipush dX7_wall_48 (by decide +kernel) ?_
  refine G_iload_n dX7_wall_50 rfl ?_
  refine G_iadd dX7_wall_51 ?_
  refine G_iald dX7_wall_52 h3 h4 h5 ?_
  exact G_reti dX7_wall_53 trivial ⟨rfl, Nat.le_of_ble_eq_true rfl⟩ kr
theorem k_X7_wall_54 {Γ : Gm} {Ret : Option Value → Wd → Prop} {a1 : Int} {p0 q1 n2 : Nat} {o2 : Option Value} {w : Wd} (kr : Ret (some (vI (zand (zshr (wI w q1 29) a1) 1))) w) (h1 : sh w p0 = some (.inr 7) := by assumption) (h2 : wR w p0 14 = vR q1 := by assumption) (h3 : sh w q1 = some (.inl (0, n2)) := by assumption) (h4 : (0 : Int) ≤ 29 ∧ 29 < (n2 : Int) := by omega) (h5 : n2 < 2147483648 := by omega) : G Γ m_X7_wall Ret 0 0 54 [some (vR p0), some (vI a1), o2] [] w := by
  refine G_aload_n dX7_wall_54 rfl ?_
  refine G_getR dX7_wall_55 fl_RX7_31 h1 rfl h2 ?_
  refine G_bipush dX7_wall_58 (by decide +kernel) ?_
  refine G_iald dX7_wall_60 h3 h4 h5 ?_
  refine G_iload_n dX7_wall_61 rfl ?_
  refine G_ishr dX7_wall_62 ?_
  refine G_const dX7_wall_63 ?_
  refine G_iand dX7_wall_64 ?_
  exact G_reti dX7_wall_65 trivial ⟨rfl, Nat.le_of_ble_eq_true rfl⟩ kr
theorem k_X7_wall_66 {Γ : Gm} {Ret : Option Value → Wd → Prop} {a1 : Int} {p0 q1 n2 : Nat} {o2 : Option Value} {w : Wd} (kr : Ret (some (vI (zand (zshr (wI w q1 30) a1) 1))) w) (h1 : sh w p0 = some (.inr 7) := by assumption) (h2 : wR w p0 14 = vR q1 := by assumption) (h3 : sh w q1 = some (.inl (0, n2)) := by assumption) (h4 : (0 : Int) ≤ 30 ∧ 30 < (n2 : Int) := by omega) (h5 : n2 < 2147483648 := by omega) : G Γ m_X7_wall Ret 0 0 66 [some (vR p0), some (vI a1), o2] [] w := by
  refine G_aload_n dX7_wall_66 rfl ?_
  refine G_getR dX7_wall_67 fl_RX7_31 h1 rfl h2 ?_
  refine G_bipush dX7_wall_70 (by decide +kernel) ?_
  refine G_iald dX7_wall_72 h3 h4 h5 ?_
  refine G_iload_n dX7_wall_73 rfl ?_
  refine G_ishr dX7_wall_74 ?_
  refine G_const dX7_wall_75 ?_
  refine G_iand dX7_wall_76 ?_
  exact G_reti dX7_wall_77 trivial ⟨rfl, Nat.le_of_ble_eq_true rfl⟩ kr
theorem k_X7_wall_78 {Γ : Gm} {Ret : Option Value → Wd → Prop} {a1 z2 : Int} {p0 q1 : Nat} {o2 : Option Value} {w : Wd} (c3 : SpP Γ m_X7_isHooked [vR q1, vI a1] w z2) (kt : z2 = 0 → G Γ m_X7_wall Ret 0 0 106 [some (vR p0), some (vI a1), o2] [] w) (kf : ¬ (z2 = 0) → G Γ m_X7_wall Ret 0 0 89 [some (vR p0), some (vI a1), o2] [] w) (h1 : sh w p0 = some (.inr 7) := by assumption) (h2 : wR w p0 14 = vR q1 := by assumption) (h4 : sm z2 := by omega) : G Γ m_X7_wall Ret 0 0 78 [some (vR p0), some (vI a1), o2] [] w := by
  refine G_aload_n dX7_wall_78 rfl ?_
  refine G_getR dX7_wall_79 fl_RX7_31 h1 rfl h2 ?_
  refine G_iload_n dX7_wall_82 rfl ?_
  refine G_SP (as := [vR q1, vI a1]) (st := []) n0_X7_isHooked dX7_wall_83 ml_RX7_130 mc_X7_isHooked rfl ⟨by decide, ⟨Nat.le_of_ble_eq_true rfl, Nat.le_of_ble_eq_true rfl⟩, Nat.le_of_ble_eq_true rfl⟩ c3 ?_
  exact G_if_eq dX7_wall_86 (by decide) h4 kt kf
theorem k_X7_wall_108 {Γ : Gm} {Ret : Option Value → Wd → Prop} {o0 o1 o2 : Option Value} {w : Wd} (kr : Ret (some (vI (-1))) w) : G Γ m_X7_wall Ret 0 0 108 [o0, o1, o2] [] w := by
  refine G_const dX7_wall_108 ?_
  exact G_reti dX7_wall_109 trivial ⟨rfl, Nat.le_of_ble_eq_true rfl⟩ kr
theorem k_X7_wall_106 {Γ : Gm} {Ret : Option Value → Wd → Prop} {o0 o1 o2 : Option Value} {w : Wd} (kr : Ret (some (vI 0)) w) : G Γ m_X7_wall Ret 0 0 106 [o0, o1, o2] [] w := by
  refine G_const dX7_wall_106 ?_
  exact G_reti dX7_wall_107 trivial ⟨rfl, Nat.le_of_ble_eq_true rfl⟩ kr
theorem k_X7_wall_89 {Γ : Gm} {Ret : Option Value → Wd → Prop} {a1 : Int} {p0 q1 n2 : Nat} {o2 : Option Value} {w : Wd} (kt : 2 ≤ (wI w q1 (25 + a1)) → G Γ m_X7_wall Ret 0 0 106 [some (vR p0), some (vI a1), o2] [] w) (kf : ¬ (2 ≤ (wI w q1 (25 + a1))) → G Γ m_X7_wall Ret 0 0 102 [some (vR p0), some (vI a1), o2] [] w) (h1 : sh w p0 = some (.inr 7) := by assumption) (h2 : wR w p0 14 = vR q1 := by assumption) (h3 : sh w q1 = some (.inl (0, n2)) := by assumption) (h4 : (0 : Int) ≤ (25 + a1) ∧ (25 + a1) < (n2 : Int) := by omega) (h5 : n2 < 2147483648 := by omega) (h6 : sm (wI w q1 (25 + a1)) := by omega) : G Γ m_X7_wall Ret 0 0 89 [some (vR p0), some (vI a1), o2] [] w := by
  refine G_aload_n dX7_wall_89 rfl ?_
  refine G_getR dX7_wall_90 fl_RX7_31 h1 rfl h2 ?_
  refine G_bipush dX7_wall_93 (by decide +kernel) ?_
  refine G_iload_n dX7_wall_95 rfl ?_
  refine G_iadd dX7_wall_96 ?_
  refine G_iald dX7_wall_97 h3 h4 h5 ?_
  refine G_const dX7_wall_98 ?_
  exact G_icmp_ge dX7_wall_99 (by decide) h6 (by decide) kt kf
theorem k_X7_wall_102 {Γ : Gm} {Ret : Option Value → Wd → Prop} {o0 o1 o2 : Option Value} {w : Wd} (kr : Ret (some (vI 1)) w) : G Γ m_X7_wall Ret 0 0 102 [o0, o1, o2] [] w := by
  refine G_const dX7_wall_102 ?_
  refine G_goto dX7_wall_103 (tgt := 107) (by decide) ?_
  exact G_reti dX7_wall_107 trivial ⟨rfl, Nat.le_of_ble_eq_true rfl⟩ kr
theorem k_X7_dampBy_0 {Γ : Gm} {Ret : Option Value → Wd → Prop} {a1 : Int} {p0 : Nat} {w : Wd} (kt : (wI w p0 10) ≠ 0 → G Γ m_X7_dampBy Ret 0 0 11 [some (vR p0), some (vI a1)] [] w) (kf : (wI w p0 10) = 0 → G Γ m_X7_dampBy Ret 0 0 7 [some (vR p0), some (vI a1)] [] w) (h1 : sh w p0 = some (.inr 7) := by assumption) (h2 : sm (wI w p0 10) := by omega) : G Γ m_X7_dampBy Ret 0 0 0 [some (vR p0), some (vI a1)] [] w := by
  refine G_aload_n dX7_dampBy_0 rfl ?_
  refine G_getI dX7_dampBy_1 fl_RX7_60 h1 rfl ?_
  exact G_if_ne dX7_dampBy_4 (by decide) h2 kt kf
theorem k_X7_dampBy_11 {Γ : Gm} {Ret : Option Value → Wd → Prop} {a1 : Int} {p0 q1 n2 : Nat} {w : Wd} (kr : Ret (some (vI (wI w q1 (Int.tmod a1 (wI w p0 10))))) w) (h1 : sh w p0 = some (.inr 7) := by assumption) (h2 : wR w p0 12 = vR q1 := by assumption) (h3 : sm a1 := by omega) (h4 : sm (wI w p0 10) := by omega) (h5 : (wI w p0 10) ≠ 0 := by omega) (h6 : (wI w p0 10) ≠ -1 := by omega) (h7 : sh w q1 = some (.inl (0, n2)) := by assumption) (h8 : (0 : Int) ≤ (Int.tmod a1 (wI w p0 10)) ∧ (Int.tmod a1 (wI w p0 10)) < (n2 : Int) := by omega) (h9 : n2 < 2147483648 := by omega) : G Γ m_X7_dampBy Ret 0 0 11 [some (vR p0), some (vI a1)] [] w := by
  refine G_aload_n dX7_dampBy_11 rfl ?_
  refine G_getR dX7_dampBy_12 fl_RX7_25 h1 rfl h2 ?_
  refine G_iload_n dX7_dampBy_15 rfl ?_
  refine G_aload_n dX7_dampBy_16 rfl ?_
  refine G_getI dX7_dampBy_17 fl_RX7_60 h1 rfl ?_
  refine G_irem dX7_dampBy_20 h3 h4 h5 h6 ?_
  refine G_iald dX7_dampBy_21 h7 h8 h9 ?_
  exact G_reti dX7_dampBy_22 trivial ⟨rfl, Nat.le_of_ble_eq_true rfl⟩ kr
theorem k_X7_dampBy_7 {Γ : Gm} {Ret : Option Value → Wd → Prop} {o0 o1 : Option Value} {w : Wd} (kr : Ret (some (vI 4)) w) : G Γ m_X7_dampBy Ret 0 0 7 [o0, o1] [] w := by
  refine G_const dX7_dampBy_7 ?_
  refine G_goto dX7_dampBy_8 (tgt := 22) (by decide) ?_
  exact G_reti dX7_dampBy_22 trivial ⟨rfl, Nat.le_of_ble_eq_true rfl⟩ kr
theorem k_X7_damp_0 {Γ : Gm} {Ret : Option Value → Wd → Prop} {a1 z1 : Int} {p0 : Nat} {w : Wd} (c1 : SpP Γ m_X7_in [vI a1, vI 0, vI 999] w z1) (kt : z1 = 0 → G Γ m_X7_damp Ret 0 0 19 [some (vR p0), some (vI a1)] [] w) (kf : ¬ (z1 = 0) → G Γ m_X7_damp Ret 0 0 11 [some (vR p0), some (vI a1)] [] w) (h2 : sm z1 := by omega) : G Γ m_X7_damp Ret 0 0 0 [some (vR p0), some (vI a1)] [] w := by
  refine G_iload_n dX7_damp_0 rfl ?_
  refine G_const dX7_damp_1 ?_
  refine G_sipush dX7_damp_2 (by decide +kernel) ?_
  refine G_SP (as := [vI a1, vI 0, vI 999]) (st := []) n0_X7_in dX7_damp_5 ml_RX7_63 mc_X7_in rfl ⟨by decide, ⟨Nat.le_of_ble_eq_true rfl, Nat.le_of_ble_eq_true rfl⟩, Nat.le_of_ble_eq_true rfl⟩ c1 ?_
  exact G_if_eq dX7_damp_8 (by decide) h2 kt kf
theorem k_X7_damp_19 {Γ : Gm} {Ret : Option Value → Wd → Prop} {o0 o1 : Option Value} {w : Wd} (kr : Ret (some (vI (-1))) w) : G Γ m_X7_damp Ret 0 0 19 [o0, o1] [] w := by
  refine G_const dX7_damp_19 ?_
  exact G_reti dX7_damp_20 trivial ⟨rfl, Nat.le_of_ble_eq_true rfl⟩ kr
theorem k_X7_damp_11 {Γ : Gm} {Ret : Option Value → Wd → Prop} {a1 z1 : Int} {p0 : Nat} {w : Wd} (c2 : SpP Γ m_X7_dampBy [vR p0, vI a1] w z1) (kr : Ret (some (vI z1)) w) (h1 : sh w p0 = some (.inr 7) := by assumption) : G Γ m_X7_damp Ret 0 0 11 [some (vR p0), some (vI a1)] [] w := by
  refine G_aload_n dX7_damp_11 rfl ?_
  refine G_iload_n dX7_damp_12 rfl ?_
  refine G_VP (as := [vI a1]) (st := []) n0_X7_dampBy dX7_damp_13 ml_RX7_134 mc_X7_dampBy rfl ⟨by decide, ⟨Nat.le_of_ble_eq_true rfl, Nat.le_of_ble_eq_true rfl⟩, Nat.le_of_ble_eq_true rfl⟩ h1 ⟨_, _, rfl⟩ c2 ?_
  refine G_goto dX7_damp_16 (tgt := 20) (by decide) ?_
  exact G_reti dX7_damp_20 trivial ⟨rfl, Nat.le_of_ble_eq_true rfl⟩ kr
