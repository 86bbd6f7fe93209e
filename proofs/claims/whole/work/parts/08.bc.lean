theorem k_X6_init_0 {Γ : Gm} {Ret : Option Value → Wd → Prop} {kc ks : Nat} {p0 : Nat} {w : Wd} {Q : Wd → Prop} (c9 : SpV Γ m_X3_init [vR (stR (nwW w) p0 0 (vR w.1)).1] (nwW (stR (nwW w) p0 0 (vR w.1))) Q) (kq : ∀ u : Wd, Q u → G Γ m_X6_init Ret (((kc + 1) + 1) + m_X3_init.2.2.2.2.cells) (((ks + 200) + 13) + m_X3_init.2.2.2.2.slots) 21 [some (vR p0)] [vR (stR (nwW w) p0 0 (vR w.1)).1, vR p0] u) (h1 : ∃ x, sh w p0 = some x := by exact ⟨_, by assumption⟩) (h2 : shp[w.1]? = some (.inl (1, 200)) := by assumption) (h3 : kc + 1 ≤ m_X6_init.2.2.2.2.cells ∧ ks + 200 ≤ m_X6_init.2.2.2.2.slots := by decide) (h4 : sh (nwW w) p0 = some (.inr 6) := by assumption) (h5 : shp[(stR (nwW w) p0 0 (vR w.1)).1]? = some (.inr 3) := by assumption) (h6 : (kc + 1) + 1 ≤ m_X6_init.2.2.2.2.cells ∧ (ks + 200) + 13 ≤ m_X6_init.2.2.2.2.slots := by decide) (h7 : ((kc + 1) + 1) + m_X3_init.2.2.2.2.cells ≤ m_X6_init.2.2.2.2.cells ∧ ((ks + 200) + 13) + m_X3_init.2.2.2.2.slots ≤ m_X6_init.2.2.2.2.slots := by decide) (h8 : sh (nwW (stR (nwW w) p0 0 (vR w.1))) ((stR (nwW w) p0 0 (vR w.1)).1) = some (.inr 3) := by assumption) : G Γ m_X6_init Ret kc ks 0 [some (vR p0)] [] w := by
  refine G_aload_n dX6_init_0 rfl ?_
  refine G_obj dX6_init_1 tb_59 tb_60 tb_61 h1 (by decide) ?_
  refine G_aload_n dX6_init_4 rfl ?_
  refine G_sipush dX6_init_5 (by decide +kernel) ?_
  refine G_newarr (n := 200) (t := 1) (ty := .char) dX6_init_8 (by decide) rfl tb_124 h2 (by decide) h3 ?_
  refine G_putR (ty := (.array .char)) dX6_init_10 fl_RX6_9 h4 rfl (fun _ => ⟨rfl, _, _, rfl⟩) (by decide +kernel) (fun _ => rfl) (fun _ => rfl) ?_
  refine G_aload_n dX6_init_13 rfl ?_
  refine G_new dX6_init_14 cn_X3 tb_62 h5 h6 ?_
  refine G_dup dX6_init_17 rfl ?_
  exact G_II (as := []) (st := [vR (stR (nwW w) p0 0 (vR w.1)).1, vR p0]) dX6_init_18 ml_RX6_15 mc_X3_init rfl ⟨by decide, h7, Nat.le_of_ble_eq_true rfl⟩ h8 c9 (fun u hq => kq u hq)
theorem k_X6_init_21 {Γ : Gm} {Ret : Option Value → Wd → Prop} {kc ks : Nat} {p0 t0 t1 : Nat} {w : Wd} {Q : Wd → Prop} (c6 : SpV Γ m_X3_init [vR (stR w t0 2 (vR t1)).1] (nwW (stR w t0 2 (vR t1))) Q) (kq : ∀ u : Wd, Q u → G Γ m_X6_init Ret ((kc + 1) + m_X3_init.2.2.2.2.cells) ((ks + 13) + m_X3_init.2.2.2.2.slots) 32 [some (vR p0)] [vR (stR w t0 2 (vR t1)).1, vR p0] u) (h1 : sh w t0 = some (.inr 6) := by assumption) (h2 : shp[(stR w t0 2 (vR t1)).1]? = some (.inr 3) := by assumption) (h3 : kc + 1 ≤ m_X6_init.2.2.2.2.cells ∧ ks + 13 ≤ m_X6_init.2.2.2.2.slots := by decide) (h4 : (kc + 1) + m_X3_init.2.2.2.2.cells ≤ m_X6_init.2.2.2.2.cells ∧ (ks + 13) + m_X3_init.2.2.2.2.slots ≤ m_X6_init.2.2.2.2.slots := by decide) (h5 : sh (nwW (stR w t0 2 (vR t1))) ((stR w t0 2 (vR t1)).1) = some (.inr 3) := by assumption) : G Γ m_X6_init Ret kc ks 21 [some (vR p0)] [vR t1, vR t0] w := by
  refine G_putR (ty := (.object "StretchedCarpet$Room")) dX6_init_21 fl_RX6_16 h1 rfl (fun h => by cases h) (by decide +kernel) (fun _ => rfl) (fun _ => rfl) ?_
  refine G_aload_n dX6_init_24 rfl ?_
  refine G_new dX6_init_25 cn_X3 tb_62 h2 h3 ?_
  refine G_dup dX6_init_28 rfl ?_
  exact G_II (as := []) (st := [vR (stR w t0 2 (vR t1)).1, vR p0]) dX6_init_29 ml_RX6_15 mc_X3_init rfl ⟨by decide, h4, Nat.le_of_ble_eq_true rfl⟩ h5 c6 (fun u hq => kq u hq)
theorem k_X6_init_32 {Γ : Gm} {Ret : Option Value → Wd → Prop} {kc ks : Nat} {p0 t0 t1 : Nat} {w : Wd} {Q : Wd → Prop} (c6 : SpV Γ m_X0_init [vR (stR w t0 3 (vR t1)).1] (nwW (stR w t0 3 (vR t1))) Q) (kq : ∀ u : Wd, Q u → G Γ m_X6_init Ret ((kc + 1) + m_X0_init.2.2.2.2.cells) ((ks + 8) + m_X0_init.2.2.2.2.slots) 43 [some (vR p0)] [vR (stR w t0 3 (vR t1)).1, vR p0] u) (h1 : sh w t0 = some (.inr 6) := by assumption) (h2 : shp[(stR w t0 3 (vR t1)).1]? = some (.inr 0) := by assumption) (h3 : kc + 1 ≤ m_X6_init.2.2.2.2.cells ∧ ks + 8 ≤ m_X6_init.2.2.2.2.slots := by decide) (h4 : (kc + 1) + m_X0_init.2.2.2.2.cells ≤ m_X6_init.2.2.2.2.cells ∧ (ks + 8) + m_X0_init.2.2.2.2.slots ≤ m_X6_init.2.2.2.2.slots := by decide) (h5 : sh (nwW (stR w t0 3 (vR t1))) ((stR w t0 3 (vR t1)).1) = some (.inr 0) := by assumption) : G Γ m_X6_init Ret kc ks 32 [some (vR p0)] [vR t1, vR t0] w := by
  refine G_putR (ty := (.object "StretchedCarpet$Room")) dX6_init_32 fl_RX6_20 h1 rfl (fun h => by cases h) (by decide +kernel) (fun _ => rfl) (fun _ => rfl) ?_
  refine G_aload_n dX6_init_35 rfl ?_
  refine G_new dX6_init_36 cn_X0 tb_126 h2 h3 ?_
  refine G_dup dX6_init_39 rfl ?_
  exact G_II (as := []) (st := [vR (stR w t0 3 (vR t1)).1, vR p0]) dX6_init_40 ml_RX6_25 mc_X0_init rfl ⟨by decide, h4, Nat.le_of_ble_eq_true rfl⟩ h5 c6 (fun u hq => kq u hq)
theorem k_X6_init_43 {Γ : Gm} {Ret : Option Value → Wd → Prop} {kc ks : Nat} {p0 t0 t1 : Nat} {w : Wd} {Q : Wd → Prop} (c6 : SpV Γ m_X0_init [vR (stR w t0 4 (vR t1)).1] (nwW (stR w t0 4 (vR t1))) Q) (kq : ∀ u : Wd, Q u → G Γ m_X6_init Ret ((kc + 1) + m_X0_init.2.2.2.2.cells) ((ks + 8) + m_X0_init.2.2.2.2.slots) 54 [some (vR p0)] [vR (stR w t0 4 (vR t1)).1, vR p0] u) (h1 : sh w t0 = some (.inr 6) := by assumption) (h2 : shp[(stR w t0 4 (vR t1)).1]? = some (.inr 0) := by assumption) (h3 : kc + 1 ≤ m_X6_init.2.2.2.2.cells ∧ ks + 8 ≤ m_X6_init.2.2.2.2.slots := by decide) (h4 : (kc + 1) + m_X0_init.2.2.2.2.cells ≤ m_X6_init.2.2.2.2.cells ∧ (ks + 8) + m_X0_init.2.2.2.2.slots ≤ m_X6_init.2.2.2.2.slots := by decide) (h5 : sh (nwW (stR w t0 4 (vR t1))) ((stR w t0 4 (vR t1)).1) = some (.inr 0) := by assumption) : G Γ m_X6_init Ret kc ks 43 [some (vR p0)] [vR t1, vR t0] w := by
  refine G_putR (ty := (.object "StretchedCarpet$Carpet")) dX6_init_43 fl_RX6_26 h1 rfl (fun _ => ⟨rfl, _, _, rfl⟩) (by decide +kernel) (fun _ => rfl) (fun _ => rfl) ?_
  refine G_aload_n dX6_init_46 rfl ?_
  refine G_new dX6_init_47 cn_X0 tb_126 h2 h3 ?_
  refine G_dup dX6_init_50 rfl ?_
  exact G_II (as := []) (st := [vR (stR w t0 4 (vR t1)).1, vR p0]) dX6_init_51 ml_RX6_25 mc_X0_init rfl ⟨by decide, h4, Nat.le_of_ble_eq_true rfl⟩ h5 c6 (fun u hq => kq u hq)
theorem k_X6_init_54 {Γ : Gm} {Ret : Option Value → Wd → Prop} {kc ks : Nat} {p0 t0 t1 : Nat} {w : Wd} {Q : Wd → Prop} (c6 : SpV Γ m_X4_init [vR (stR w t0 5 (vR t1)).1, vI 8] (nwW (stR w t0 5 (vR t1))) Q) (kq : ∀ u : Wd, Q u → G Γ m_X6_init Ret ((kc + 1) + m_X4_init.2.2.2.2.cells) ((ks + 3) + m_X4_init.2.2.2.2.slots) 67 [some (vR p0)] [vR (stR w t0 5 (vR t1)).1, vR p0] u) (h1 : sh w t0 = some (.inr 6) := by assumption) (h2 : shp[(stR w t0 5 (vR t1)).1]? = some (.inr 4) := by assumption) (h3 : kc + 1 ≤ m_X6_init.2.2.2.2.cells ∧ ks + 3 ≤ m_X6_init.2.2.2.2.slots := by decide) (h4 : (kc + 1) + m_X4_init.2.2.2.2.cells ≤ m_X6_init.2.2.2.2.cells ∧ (ks + 3) + m_X4_init.2.2.2.2.slots ≤ m_X6_init.2.2.2.2.slots := by decide) (h5 : sh (nwW (stR w t0 5 (vR t1))) ((stR w t0 5 (vR t1)).1) = some (.inr 4) := by assumption) : G Γ m_X6_init Ret kc ks 54 [some (vR p0)] [vR t1, vR t0] w := by
  refine G_putR (ty := (.object "StretchedCarpet$Carpet")) dX6_init_54 fl_RX6_30 h1 rfl (fun _ => ⟨rfl, _, _, rfl⟩) (by decide +kernel) (fun _ => rfl) (fun _ => rfl) ?_
  refine G_aload_n dX6_init_57 rfl ?_
  refine G_new dX6_init_58 cn_X4 tb_172 h2 h3 ?_
  refine G_dup dX6_init_61 rfl ?_
  refine G_bipush dX6_init_62 (by decide +kernel) ?_
  exact G_II (as := [vI 8]) (st := [vR (stR w t0 5 (vR t1)).1, vR p0]) dX6_init_64 ml_RX6_35 mc_X4_init rfl ⟨by decide, h4, Nat.le_of_ble_eq_true rfl⟩ h5 c6 (fun u hq => kq u hq)
theorem k_X6_init_67 {Γ : Gm} {Ret : Option Value → Wd → Prop} {kc ks : Nat} {p0 t0 t1 : Nat} {w : Wd} {Q : Wd → Prop} (c6 : SpV Γ m_X4_initB [vR (stR w t0 6 (vR t1)).1, vI 2] (nwW (stR w t0 6 (vR t1))) Q) (kq : ∀ u : Wd, Q u → G Γ m_X6_init Ret ((kc + 1) + m_X4_initB.2.2.2.2.cells) ((ks + 3) + m_X4_initB.2.2.2.2.slots) 79 [some (vR p0)] [vR (stR w t0 6 (vR t1)).1, vR p0] u) (h1 : sh w t0 = some (.inr 6) := by assumption) (h2 : shp[(stR w t0 6 (vR t1)).1]? = some (.inr 4) := by assumption) (h3 : kc + 1 ≤ m_X6_init.2.2.2.2.cells ∧ ks + 3 ≤ m_X6_init.2.2.2.2.slots := by decide) (h4 : (kc + 1) + m_X4_initB.2.2.2.2.cells ≤ m_X6_init.2.2.2.2.cells ∧ (ks + 3) + m_X4_initB.2.2.2.2.slots ≤ m_X6_init.2.2.2.2.slots := by decide) (h5 : sh (nwW (stR w t0 6 (vR t1))) ((stR w t0 6 (vR t1)).1) = some (.inr 4) := by assumption) : G Γ m_X6_init Ret kc ks 67 [some (vR p0)] [vR t1, vR t0] w := by
  refine G_putR (ty := (.object "StretchedCarpet$Shelf")) dX6_init_67 fl_RX6_38 h1 rfl (fun _ => ⟨rfl, _, _, rfl⟩) (by decide +kernel) (fun _ => rfl) (fun _ => rfl) ?_
  refine G_aload_n dX6_init_70 rfl ?_
  refine G_new dX6_init_71 cn_X4 tb_172 h2 h3 ?_
  refine G_dup dX6_init_74 rfl ?_
  refine G_const dX6_init_75 ?_
  exact G_II (as := [vI 2]) (st := [vR (stR w t0 6 (vR t1)).1, vR p0]) dX6_init_76 ml_RX6_35B mc_X4_initB rfl ⟨by decide, h4, Nat.le_of_ble_eq_true rfl⟩ h5 c6 (fun u hq => kq u hq)
theorem k_X6_init_79 {Γ : Gm} {Ret : Option Value → Wd → Prop} {kc ks : Nat} {p0 t0 t1 : Nat} {w : Wd} {Q : Wd → Prop} (c6 : SpV Γ m_X5_init [vR (stR w t0 7 (vR t1)).1] (nwW (stR w t0 7 (vR t1))) Q) (kq : ∀ u : Wd, Q u → G Γ m_X6_init Ret ((kc + 1) + m_X5_init.2.2.2.2.cells) ((ks + 3) + m_X5_init.2.2.2.2.slots) 90 [some (vR p0)] [vR (stR w t0 7 (vR t1)).1, vR p0] u) (h1 : sh w t0 = some (.inr 6) := by assumption) (h2 : shp[(stR w t0 7 (vR t1)).1]? = some (.inr 5) := by assumption) (h3 : kc + 1 ≤ m_X6_init.2.2.2.2.cells ∧ ks + 3 ≤ m_X6_init.2.2.2.2.slots := by decide) (h4 : (kc + 1) + m_X5_init.2.2.2.2.cells ≤ m_X6_init.2.2.2.2.cells ∧ (ks + 3) + m_X5_init.2.2.2.2.slots ≤ m_X6_init.2.2.2.2.slots := by decide) (h5 : sh (nwW (stR w t0 7 (vR t1))) ((stR w t0 7 (vR t1)).1) = some (.inr 5) := by assumption) : G Γ m_X6_init Ret kc ks 79 [some (vR p0)] [vR t1, vR t0] w := by
  refine G_putR (ty := (.object "StretchedCarpet$Shelf")) dX6_init_79 fl_RX6_42 h1 rfl (fun _ => ⟨rfl, _, _, rfl⟩) (by decide +kernel) (fun _ => rfl) (fun _ => rfl) ?_
  refine G_aload_n dX6_init_82 rfl ?_
  refine G_new dX6_init_83 cn_X5 tb_195 h2 h3 ?_
  refine G_dup dX6_init_86 rfl ?_
  exact G_II (as := []) (st := [vR (stR w t0 7 (vR t1)).1, vR p0]) dX6_init_87 ml_RX6_47 mc_X5_init rfl ⟨by decide, h4, Nat.le_of_ble_eq_true rfl⟩ h5 c6 (fun u hq => kq u hq)
theorem k_X6_init_90 {Γ : Gm} {Ret : Option Value → Wd → Prop} {kc ks : Nat} {p0 t0 t1 : Nat} {w : Wd} {Q : Wd → Prop} (c6 : SpV Γ m_X1_init [vR (stR w t0 8 (vR t1)).1] (nwW (stR w t0 8 (vR t1))) Q) (kq : ∀ u : Wd, Q u → G Γ m_X6_init Ret ((kc + 1) + m_X1_init.2.2.2.2.cells) ((ks + 8) + m_X1_init.2.2.2.2.slots) 101 [some (vR p0)] [vR (stR w t0 8 (vR t1)).1, vR p0] u) (h1 : sh w t0 = some (.inr 6) := by assumption) (h2 : shp[(stR w t0 8 (vR t1)).1]? = some (.inr 1) := by assumption) (h3 : kc + 1 ≤ m_X6_init.2.2.2.2.cells ∧ ks + 8 ≤ m_X6_init.2.2.2.2.slots := by decide) (h4 : (kc + 1) + m_X1_init.2.2.2.2.cells ≤ m_X6_init.2.2.2.2.cells ∧ (ks + 8) + m_X1_init.2.2.2.2.slots ≤ m_X6_init.2.2.2.2.slots := by decide) (h5 : sh (nwW (stR w t0 8 (vR t1))) ((stR w t0 8 (vR t1)).1) = some (.inr 1) := by assumption) : G Γ m_X6_init Ret kc ks 90 [some (vR p0)] [vR t1, vR t0] w := by
  refine G_putR (ty := (.object "StretchedCarpet$Sightings")) dX6_init_90 fl_RX6_48 h1 rfl (fun _ => ⟨rfl, _, _, rfl⟩) (by decide +kernel) (fun _ => rfl) (fun _ => rfl) ?_
  refine G_aload_n dX6_init_93 rfl ?_
  refine G_new dX6_init_94 cn_X1 tb_216 h2 h3 ?_
  refine G_dup dX6_init_97 rfl ?_
  exact G_II (as := []) (st := [vR (stR w t0 8 (vR t1)).1, vR p0]) dX6_init_98 ml_RX6_54 mc_X1_init rfl ⟨by decide, h4, Nat.le_of_ble_eq_true rfl⟩ h5 c6 (fun u hq => kq u hq)
theorem k_X6_init_101 {Γ : Gm} {Ret : Option Value → Wd → Prop} {kc ks : Nat} {p0 t0 t1 : Nat} {w : Wd} {Q : Wd → Prop} (c6 : SpV Γ m_X2_init [vR (stR w t0 9 (vR t1)).1] (nwW (stR w t0 9 (vR t1))) Q) (kq : ∀ u : Wd, Q u → G Γ m_X6_init Ret ((kc + 1) + m_X2_init.2.2.2.2.cells) ((ks + 3) + m_X2_init.2.2.2.2.slots) 112 [some (vR p0)] [vR (stR w t0 9 (vR t1)).1, vR p0] u) (h1 : sh w t0 = some (.inr 6) := by assumption) (h2 : shp[(stR w t0 9 (vR t1)).1]? = some (.inr 2) := by assumption) (h3 : kc + 1 ≤ m_X6_init.2.2.2.2.cells ∧ ks + 3 ≤ m_X6_init.2.2.2.2.slots := by decide) (h4 : (kc + 1) + m_X2_init.2.2.2.2.cells ≤ m_X6_init.2.2.2.2.cells ∧ (ks + 3) + m_X2_init.2.2.2.2.slots ≤ m_X6_init.2.2.2.2.slots := by decide) (h5 : sh (nwW (stR w t0 9 (vR t1))) ((stR w t0 9 (vR t1)).1) = some (.inr 2) := by assumption) : G Γ m_X6_init Ret kc ks 101 [some (vR p0)] [vR t1, vR t0] w := by
  refine G_putR (ty := (.object "StretchedCarpet$CutPlan")) dX6_init_101 fl_RX6_55 h1 rfl (fun _ => ⟨rfl, _, _, rfl⟩) (by decide +kernel) (fun _ => rfl) (fun _ => rfl) ?_
  refine G_aload_n dX6_init_104 rfl ?_
  refine G_new dX6_init_105 cn_X2 tb_250 h2 h3 ?_
  refine G_dup dX6_init_108 rfl ?_
  exact G_II (as := []) (st := [vR (stR w t0 9 (vR t1)).1, vR p0]) dX6_init_109 ml_RX6_61 mc_X2_init rfl ⟨by decide, h4, Nat.le_of_ble_eq_true rfl⟩ h5 c6 (fun u hq => kq u hq)
-- skipped X6_init 112: string
theorem k_X6_write_0 {Γ : Gm} {Ret : Option Value → Wd → Prop} {a1 z1 : Int} {p0 : Nat} {w : Wd} (c1 : SpP Γ m_X6_within [vI a1, vI 32, vI 126] w z1) (kt : z1 ≠ 0 → G Γ m_X6_write Ret 0 0 13 [some (vR p0), some (vI a1)] [] w) (kf : z1 = 0 → G Γ m_X6_write Ret 0 0 11 [some (vR p0), some (vI a1)] [] w) (h2 : sm z1 := by omega) : G Γ m_X6_write Ret 0 0 0 [some (vR p0), some (vI a1)] [] w := by
  refine G_iload_n dX6_write_0 rfl ?_
  refine G_bipush dX6_write_1 (by decide +kernel) ?_
  refine G_bipush dX6_write_3 (by decide +kernel) ?_
  refine G_SP (as := [vI a1, vI 32, vI 126]) (st := []) n0_X6_within dX6_write_5 ml_RX6_89 mc_X6_within rfl ⟨by decide, ⟨Nat.le_of_ble_eq_true rfl, Nat.le_of_ble_eq_true rfl⟩, Nat.le_of_ble_eq_true rfl⟩ c1 ?_
  exact G_if_ne dX6_write_8 (by decide) h2 kt kf
theorem k_X6_write_13 {Γ : Gm} {Ret : Option Value → Wd → Prop} {a1 : Int} {p0 : Nat} {w : Wd} (kt : (wI w p0 1) < 0 → G Γ m_X6_write Ret 0 0 32 [some (vR p0), some (vI a1)] [] w) (kf : ¬ ((wI w p0 1) < 0) → G Γ m_X6_write Ret 0 0 20 [some (vR p0), some (vI a1)] [] w) (h1 : sh w p0 = some (.inr 6) := by assumption) (h2 : sm (wI w p0 1) := by omega) : G Γ m_X6_write Ret 0 0 13 [some (vR p0), some (vI a1)] [] w := by
  refine G_aload_n dX6_write_13 rfl ?_
  refine G_getI dX6_write_14 fl_RX6_93 h1 rfl ?_
  exact G_if_lt dX6_write_17 (by decide) h2 kt kf
theorem k_X6_write_11 {Γ : Gm} {Ret : Option Value → Wd → Prop} {o0 o1 : Option Value} {w : Wd} (kr : Ret (some (vI (-1))) w) : G Γ m_X6_write Ret 0 0 11 [o0, o1] [] w := by
  refine G_const dX6_write_11 ?_
  exact G_reti dX6_write_12 trivial ⟨rfl, Nat.le_of_ble_eq_true rfl⟩ kr
theorem k_X6_write_32 {Γ : Gm} {Ret : Option Value → Wd → Prop} {o0 o1 : Option Value} {w : Wd} (kr : Ret (some (vI (-3))) w) : G Γ m_X6_write Ret 0 0 32 [o0, o1] [] w := by
  refine G_bipush dX6_write_32 (by decide +kernel) ?_
  exact G_reti dX6_write_34 trivial ⟨rfl, Nat.le_of_ble_eq_true rfl⟩ kr
theorem k_X6_write_20 {Γ : Gm} {Ret : Option Value → Wd → Prop} {a1 : Int} {p0 q1 n2 : Nat} {w : Wd} (kt : (wI w p0 1) < (n2 : Int) → G Γ m_X6_write Ret 0 0 35 [some (vR p0), some (vI a1)] [] w) (kf : ¬ ((wI w p0 1) < (n2 : Int)) → G Γ m_X6_write Ret 0 0 32 [some (vR p0), some (vI a1)] [] w) (h1 : sh w p0 = some (.inr 6) := by assumption) (h2 : wR w p0 0 = vR q1 := by assumption) (h3 : sh w q1 = some (.inl (1, n2)) := by assumption) (h4 : sm (wI w p0 1) := by omega) (h5 : sm (n2 : Int) := by omega) : G Γ m_X6_write Ret 0 0 20 [some (vR p0), some (vI a1)] [] w := by
  refine G_aload_n dX6_write_20 rfl ?_
  refine G_getI dX6_write_21 fl_RX6_93 h1 rfl ?_
  refine G_aload_n dX6_write_24 rfl ?_
  refine G_getR dX6_write_25 fl_RX6_9 h1 rfl h2 ?_
  refine G_alen dX6_write_28 h3 (by decide) ?_
  exact G_icmp_lt dX6_write_29 (by decide) h4 h5 kt kf
theorem k_X6_write_35 {Γ : Gm} {Ret : Option Value → Wd → Prop} {a1 : Int} {p0 q1 n2 : Nat} {w : Wd} (kr : Ret (some (vI ((wI (stI w q1 (wI w p0 1) a1) p0 1) + 1))) (stI (stI w q1 (wI w p0 1) a1) p0 1 ((wI (stI w q1 (wI w p0 1) a1) p0 1) + 1))) (h1 : sh w p0 = some (.inr 6) := by assumption) (h2 : wR w p0 0 = vR q1 := by assumption) (h3 : (0 : Int) ≤ a1 ∧ a1 < 65536 := by omega) (h4 : sh w q1 = some (.inl (1, n2)) := by assumption) (h5 : (0 : Int) ≤ (wI w p0 1) ∧ (wI w p0 1) < (n2 : Int) := by omega) (h6 : n2 < 2147483648 := by omega) : G Γ m_X6_write Ret 0 0 35 [some (vR p0), some (vI a1)] [] w := by
  refine G_aload_n dX6_write_35 rfl ?_
  refine G_getR dX6_write_36 fl_RX6_9 h1 rfl h2 ?_
  refine G_aload_n dX6_write_39 rfl ?_
  refine G_getI dX6_write_40 fl_RX6_93 h1 rfl ?_
  refine G_iload_n dX6_write_43 rfl ?_
  refine G_i2c dX6_write_44 h3 ?_
  refine G_cast dX6_write_45 h4 h5 h6 h3 ?_
  refine G_aload_n dX6_write_46 rfl ?_
  refine G_dup dX6_write_47 rfl ?_
  refine G_getI dX6_write_48 fl_RX6_93 h1 rfl ?_
  refine G_const dX6_write_51 ?_
  refine G_iadd dX6_write_52 ?_
  refine G_putI dX6_write_53 fl_RX6_93 h1 rfl ?_
  refine G_aload_n dX6_write_56 rfl ?_
  refine G_getI dX6_write_57 fl_RX6_93 h1 rfl ?_
  rw [wI_hit]
  exact G_reti dX6_write_60 trivial ⟨rfl, Nat.le_of_ble_eq_true rfl⟩ kr
theorem k_X6_wipe_0 {Γ : Gm} {Ret : Option Value → Wd → Prop} {p0 : Nat} {w : Wd} (kr : Ret (some (vI (wI w p0 1))) (stI w p0 1 0)) (h1 : sh w p0 = some (.inr 6) := by assumption) : G Γ m_X6_wipe Ret 0 0 0 [some (vR p0), none] [] w := by
  refine G_aload_n dX6_wipe_0 rfl ?_
  refine G_getI dX6_wipe_1 fl_RX6_93 h1 rfl ?_
  refine G_istore_n dX6_wipe_4 (by decide) rfl ?_
  refine G_aload_n dX6_wipe_5 rfl ?_
  refine G_const dX6_wipe_6 ?_
  refine G_putI dX6_wipe_7 fl_RX6_93 h1 rfl ?_
  refine G_iload_n dX6_wipe_10 rfl ?_
  exact G_reti dX6_wipe_11 trivial ⟨rfl, Nat.le_of_ble_eq_true rfl⟩ kr
theorem k_X6_fault_0 {Γ : Gm} {Ret : Option Value → Wd → Prop} {p0 q1 q2 : Nat} {w : Wd} {Q : Int → Wd → Prop} (c5 : SpI Γ m_X3_readText [vR q1, vR q2, vI (wI w p0 1)] w Q) (kq : ∀ (z : Int) (u : Wd), Q z u → G Γ m_X6_fault Ret 0 0 15 [some (vR p0)] [vI z] u) (h1 : sh w p0 = some (.inr 6) := by assumption) (h2 : wR w p0 3 = vR q1 := by assumption) (h3 : wR w p0 0 = vR q2 := by assumption) (h4 : sh w q1 = some (.inr 3) := by assumption) : G Γ m_X6_fault Ret 0 0 0 [some (vR p0)] [] w := by
  refine G_aload_n dX6_fault_0 rfl ?_
  refine G_getR dX6_fault_1 fl_RX6_20 h1 rfl h2 ?_
  refine G_aload_n dX6_fault_4 rfl ?_
  refine G_getR dX6_fault_5 fl_RX6_9 h1 rfl h3 ?_
  refine G_aload_n dX6_fault_8 rfl ?_
  refine G_getI dX6_fault_9 fl_RX6_93 h1 rfl ?_
  exact G_VI (as := [vR q2, vI (wI w p0 1)]) (st := []) n0_X3_readText dX6_fault_12 ml_RX6_78 mc_X3_readText rfl ⟨by decide, ⟨Nat.le_of_ble_eq_true rfl, Nat.le_of_ble_eq_true rfl⟩, Nat.le_of_ble_eq_true rfl⟩ h4 ⟨_, _, rfl⟩ c5 (fun z u hq => kq z u hq)
theorem k_X6_fault_15 {Γ : Gm} {Ret : Option Value → Wd → Prop} {s0 : Int} {o0 : Option Value} {w : Wd} (kr : Ret (some (vI s0)) w) : G Γ m_X6_fault Ret 0 0 15 [o0] [vI s0] w := by
  exact G_reti dX6_fault_15 trivial ⟨rfl, Nat.le_of_ble_eq_true rfl⟩ kr
theorem k_X6_lay_0 {Γ : Gm} {Ret : Option Value → Wd → Prop} {p0 q1 q2 : Nat} {w : Wd} {Q : Int → Wd → Prop} (c5 : SpI Γ m_X3_readText [vR q1, vR q2, vI (wI w p0 1)] w Q) (kq : ∀ (z : Int) (u : Wd), Q z u → G Γ m_X6_lay Ret 0 0 15 [some (vR p0), none] [vI z] u) (h1 : sh w p0 = some (.inr 6) := by assumption) (h2 : wR w p0 3 = vR q1 := by assumption) (h3 : wR w p0 0 = vR q2 := by assumption) (h4 : sh w q1 = some (.inr 3) := by assumption) : G Γ m_X6_lay Ret 0 0 0 [some (vR p0), none] [] w := by
  refine G_aload_n dX6_lay_0 rfl ?_
  refine G_getR dX6_lay_1 fl_RX6_20 h1 rfl h2 ?_
  refine G_aload_n dX6_lay_4 rfl ?_
  refine G_getR dX6_lay_5 fl_RX6_9 h1 rfl h3 ?_
  refine G_aload_n dX6_lay_8 rfl ?_
  refine G_getI dX6_lay_9 fl_RX6_93 h1 rfl ?_
  exact G_VI (as := [vR q2, vI (wI w p0 1)]) (st := []) n0_X3_readText dX6_lay_12 ml_RX6_78 mc_X3_readText rfl ⟨by decide, ⟨Nat.le_of_ble_eq_true rfl, Nat.le_of_ble_eq_true rfl⟩, Nat.le_of_ble_eq_true rfl⟩ h4 ⟨_, _, rfl⟩ c5 (fun z u hq => kq z u hq)
theorem k_X6_lay_15 {Γ : Gm} {Ret : Option Value → Wd → Prop} {s0 : Int} {p0 : Nat} {o1 : Option Value} {w : Wd} (kt : s0 ≠ (-4) → G Γ m_X6_lay Ret 0 0 30 [some (vR p0), o1] [] w) (kf : s0 = (-4) → G Γ m_X6_lay Ret 0 0 20 [some (vR p0), o1] [] w) (h1 : sm s0 := by omega) : G Γ m_X6_lay Ret 0 0 15 [some (vR p0), o1] [vI s0] w := by
  refine G_bipush dX6_lay_15 (by decide +kernel) ?_
  exact G_icmp_ne dX6_lay_17 (by decide) h1 (by decide) kt kf
theorem k_X6_lay_30 {Γ : Gm} {Ret : Option Value → Wd → Prop} {o0 o1 : Option Value} {w : Wd} (kr : Ret (some (vI (-2))) w) : G Γ m_X6_lay Ret 0 0 30 [o0, o1] [] w := by
  refine G_bipush dX6_lay_30 (by decide +kernel) ?_
  exact G_reti dX6_lay_32 trivial ⟨rfl, Nat.le_of_ble_eq_true rfl⟩ kr
theorem k_X6_lay_20 {Γ : Gm} {Ret : Option Value → Wd → Prop} {p0 q1 : Nat} {o1 : Option Value} {w : Wd} (kt : (wI w q1 5) ≠ 0 → G Γ m_X6_lay Ret 0 0 33 [some (vR p0), o1] [] w) (kf : (wI w q1 5) = 0 → G Γ m_X6_lay Ret 0 0 30 [some (vR p0), o1] [] w) (h1 : sh w p0 = some (.inr 6) := by assumption) (h2 : wR w p0 3 = vR q1 := by assumption) (h3 : sh w q1 = some (.inr 3) := by assumption) (h4 : sm (wI w q1 5) := by omega) : G Γ m_X6_lay Ret 0 0 20 [some (vR p0), o1] [] w := by
  refine G_aload_n dX6_lay_20 rfl ?_
  refine G_getR dX6_lay_21 fl_RX6_20 h1 rfl h2 ?_
  refine G_getI dX6_lay_24 fl_RX6_96 h3 rfl ?_
  exact G_if_ne dX6_lay_27 (by decide) h4 kt kf
theorem k_X6_lay_33 {Γ : Gm} {Ret : Option Value → Wd → Prop} {p0 q1 q2 q3 q4 : Nat} {o1 : Option Value} {w : Wd} {Q : Wd → Prop} (c8 : SpV Γ m_X0_clear [vR q3, vI (wI w q4 8)] (stR (stR w p0 2 (vR q2)) p0 3 (vR q1)) Q) (kq : ∀ u : Wd, Q u → G Γ m_X6_lay Ret 0 0 65 [some (vR p0), some (vR q1)] [] u) (h1 : sh w p0 = some (.inr 6) := by assumption) (h2 : wR w p0 2 = vR q1 := by assumption) (h3 : wR w p0 3 = vR q2 := by assumption) (h4 : wR (stR (stR w p0 2 (vR q2)) p0 3 (vR q1)) p0 4 = vR q3 := by assumption) (h5 : wR (stR (stR w p0 2 (vR q2)) p0 3 (vR q1)) p0 2 = vR q4 := by assumption) (h6 : sh w q4 = some (.inr 3) := by assumption) (h7 : sh w q3 = some (.inr 0) := by assumption) : G Γ m_X6_lay Ret 0 0 33 [some (vR p0), o1] [] w := by
  refine G_aload_n dX6_lay_33 rfl ?_
  refine G_getR dX6_lay_34 fl_RX6_16 h1 rfl h2 ?_
  refine G_astore_n dX6_lay_37 (by decide) rfl ?_
  refine G_aload_n dX6_lay_38 rfl ?_
  refine G_aload_n dX6_lay_39 rfl ?_
  refine G_getR dX6_lay_40 fl_RX6_20 h1 rfl h3 ?_
  refine G_putR (ty := (.object "StretchedCarpet$Room")) dX6_lay_43 fl_RX6_16 h1 rfl (fun h => by cases h) (by decide +kernel) (fun _ => rfl) (fun _ => rfl) ?_
  refine G_aload_n dX6_lay_46 rfl ?_
  refine G_aload_n dX6_lay_47 rfl ?_
  refine G_putR (ty := (.object "StretchedCarpet$Room")) dX6_lay_48 fl_RX6_20 h1 rfl (fun h => by cases h) (by decide +kernel) (fun _ => rfl) (fun _ => rfl) ?_
  refine G_aload_n dX6_lay_51 rfl ?_
  refine G_getR dX6_lay_52 fl_RX6_26 h1 rfl h4 ?_
  refine G_aload_n dX6_lay_55 rfl ?_
  refine G_getR dX6_lay_56 fl_RX6_16 h1 rfl h5 ?_
  refine G_getI dX6_lay_59 fl_RX6_82 h6 rfl ?_
  exact G_VV (as := [vI (wI w q4 8)]) (st := []) n0_X0_clear dX6_lay_62 ml_RX6_86 mc_X0_clear rfl ⟨by decide, ⟨Nat.le_of_ble_eq_true rfl, Nat.le_of_ble_eq_true rfl⟩, Nat.le_of_ble_eq_true rfl⟩ h7 ⟨_, _, rfl⟩ c8 (fun u hq => kq u hq)
theorem k_X6_lay_65 {Γ : Gm} {Ret : Option Value → Wd → Prop} {p0 q1 : Nat} {o1 : Option Value} {w : Wd} {Q : Wd → Prop} (c4 : SpV Γ m_X4_clear [vR q1] w Q) (kq : ∀ u : Wd, Q u → G Γ m_X6_lay Ret 0 0 72 [some (vR p0), o1] [] u) (h1 : sh w p0 = some (.inr 6) := by assumption) (h2 : wR w p0 6 = vR q1 := by assumption) (h3 : sh w q1 = some (.inr 4) := by assumption) : G Γ m_X6_lay Ret 0 0 65 [some (vR p0), o1] [] w := by
  refine G_aload_n dX6_lay_65 rfl ?_
  refine G_getR dX6_lay_66 fl_RX6_38 h1 rfl h2 ?_
  exact G_VV (as := []) (st := []) n0_X4_clear dX6_lay_69 ml_RX6_99 mc_X4_clear rfl ⟨by decide, ⟨Nat.le_of_ble_eq_true rfl, Nat.le_of_ble_eq_true rfl⟩, Nat.le_of_ble_eq_true rfl⟩ h3 ⟨_, _, rfl⟩ c4 (fun u hq => kq u hq)
theorem k_X6_lay_72 {Γ : Gm} {Ret : Option Value → Wd → Prop} {p0 q1 : Nat} {o1 : Option Value} {w : Wd} {Q : Wd → Prop} (c4 : SpV Γ m_X4_clear [vR q1] w Q) (kq : ∀ u : Wd, Q u → G Γ m_X6_lay Ret 0 0 79 [some (vR p0), o1] [] u) (h1 : sh w p0 = some (.inr 6) := by assumption) (h2 : wR w p0 7 = vR q1 := by assumption) (h3 : sh w q1 = some (.inr 4) := by assumption) : G Γ m_X6_lay Ret 0 0 72 [some (vR p0), o1] [] w := by
  refine G_aload_n dX6_lay_72 rfl ?_
  refine G_getR dX6_lay_73 fl_RX6_42 h1 rfl h2 ?_
  exact G_VV (as := []) (st := []) n0_X4_clear dX6_lay_76 ml_RX6_99 mc_X4_clear rfl ⟨by decide, ⟨Nat.le_of_ble_eq_true rfl, Nat.le_of_ble_eq_true rfl⟩, Nat.le_of_ble_eq_true rfl⟩ h3 ⟨_, _, rfl⟩ c4 (fun u hq => kq u hq)
theorem k_X6_lay_79 {Γ : Gm} {Ret : Option Value → Wd → Prop} {p0 q1 : Nat} {o1 : Option Value} {w : Wd} {Q : Wd → Prop} (c4 : SpV Γ m_X5_clear [vR q1] w Q) (kq : ∀ u : Wd, Q u → G Γ m_X6_lay Ret 0 0 86 [some (vR p0), o1] [] u) (h1 : sh w p0 = some (.inr 6) := by assumption) (h2 : wR w p0 8 = vR q1 := by assumption) (h3 : sh w q1 = some (.inr 5) := by assumption) : G Γ m_X6_lay Ret 0 0 79 [some (vR p0), o1] [] w := by
  refine G_aload_n dX6_lay_79 rfl ?_
  refine G_getR dX6_lay_80 fl_RX6_48 h1 rfl h2 ?_
  exact G_VV (as := []) (st := []) n0_X5_clear dX6_lay_83 ml_RX6_101 mc_X5_clear rfl ⟨by decide, ⟨Nat.le_of_ble_eq_true rfl, Nat.le_of_ble_eq_true rfl⟩, Nat.le_of_ble_eq_true rfl⟩ h3 ⟨_, _, rfl⟩ c4 (fun u hq => kq u hq)
theorem k_X6_lay_86 {Γ : Gm} {Ret : Option Value → Wd → Prop} {p0 q1 : Nat} {o1 : Option Value} {w : Wd} (kr : Ret (some (vI (wI w q1 5))) w) (h1 : sh w p0 = some (.inr 6) := by assumption) (h2 : wR w p0 2 = vR q1 := by assumption) (h3 : sh w q1 = some (.inr 3) := by assumption) : G Γ m_X6_lay Ret 0 0 86 [some (vR p0), o1] [] w := by
  refine G_aload_n dX6_lay_86 rfl ?_
  refine G_getR dX6_lay_87 fl_RX6_16 h1 rfl h2 ?_
  refine G_getI dX6_lay_90 fl_RX6_96 h3 rfl ?_
  exact G_reti dX6_lay_93 trivial ⟨rfl, Nat.le_of_ble_eq_true rfl⟩ kr
theorem k_X6_strip_0 {Γ : Gm} {Ret : Option Value → Wd → Prop} {a1 a2 z2 : Int} {p0 q1 : Nat} {w : Wd} (c4 : SpP Γ m_X6_within [vI a1, vI 0, vI ((wI w q1 5) - 1)] w z2) (kt : z2 ≠ 0 → G Γ m_X6_strip Ret 0 0 19 [some (vR p0), some (vI a1), some (vI a2)] [] w) (kf : z2 = 0 → G Γ m_X6_strip Ret 0 0 17 [some (vR p0), some (vI a1), some (vI a2)] [] w) (h1 : sh w p0 = some (.inr 6) := by assumption) (h2 : wR w p0 2 = vR q1 := by assumption) (h3 : sh w q1 = some (.inr 3) := by assumption) (h5 : sm z2 := by omega) : G Γ m_X6_strip Ret 0 0 0 [some (vR p0), some (vI a1), some (vI a2)] [] w := by
  refine G_iload_n dX6_strip_0 rfl ?_
  refine G_const dX6_strip_1 ?_
  refine G_aload_n dX6_strip_2 rfl ?_
  refine G_getR dX6_strip_3 fl_RX6_16 h1 rfl h2 ?_
  refine G_getI dX6_strip_6 fl_RX6_96 h3 rfl ?_
  refine G_const dX6_strip_9 ?_
  refine G_isub dX6_strip_10 ?_
  refine G_SP (as := [vI a1, vI 0, vI ((wI w q1 5) - 1)]) (st := []) n0_X6_within dX6_strip_11 ml_RX6_89 mc_X6_within rfl ⟨by decide, ⟨Nat.le_of_ble_eq_true rfl, Nat.le_of_ble_eq_true rfl⟩, Nat.le_of_ble_eq_true rfl⟩ c4 ?_
  exact G_if_ne dX6_strip_14 (by decide) h5 kt kf
theorem k_X6_strip_19 {Γ : Gm} {Ret : Option Value → Wd → Prop} {a1 a2 : Int} {p0 : Nat} {w : Wd} (k56 : a2 = 0 → G Γ m_X6_strip Ret 0 0 56 [some (vR p0), some (vI a1), some (vI a2)] [] w) (k65 : a2 = 1 → G Γ m_X6_strip Ret 0 0 65 [some (vR p0), some (vI a1), some (vI a2)] [] w) (k74 : a2 = 2 → G Γ m_X6_strip Ret 0 0 74 [some (vR p0), some (vI a1), some (vI a2)] [] w) (k83 : a2 = 3 → G Γ m_X6_strip Ret 0 0 83 [some (vR p0), some (vI a1), some (vI a2)] [] w) (k92 : a2 = 4 → G Γ m_X6_strip Ret 0 0 92 [some (vR p0), some (vI a1), some (vI a2)] [] w) (kd : (a2 ≠ 0 ∧ a2 ≠ 1 ∧ a2 ≠ 2 ∧ a2 ≠ 3 ∧ a2 ≠ 4) → G Γ m_X6_strip Ret 0 0 109 [some (vR p0), some (vI a1), some (vI a2)] [] w) (h1 : sm a2 := by omega) : G Γ m_X6_strip Ret 0 0 19 [some (vR p0), some (vI a1), some (vI a2)] [] w := by
  refine G_iload_n dX6_strip_19 rfl ?_
  by_cases hq : a2 < 0 ∨ 4 < a2
  · exact G_tableOut dX6_strip_20 h1 hq (by decide) (kd (by omega))
  by_cases hv0 : a2 = 0
  · exact G_tableIn (off := 36) (tgt := 56) dX6_strip_20 h1 (by omega) (by omega) (by rw [hv0]; rfl) (by decide) (k56 (by omega))
  by_cases hv1 : a2 = 1
  · exact G_tableIn (off := 45) (tgt := 65) dX6_strip_20 h1 (by omega) (by omega) (by rw [hv1]; rfl) (by decide) (k65 (by omega))
  by_cases hv2 : a2 = 2
  · exact G_tableIn (off := 54) (tgt := 74) dX6_strip_20 h1 (by omega) (by omega) (by rw [hv2]; rfl) (by decide) (k74 (by omega))
  by_cases hv3 : a2 = 3
  · exact G_tableIn (off := 63) (tgt := 83) dX6_strip_20 h1 (by omega) (by omega) (by rw [hv3]; rfl) (by decide) (k83 (by omega))
  by_cases hv4 : a2 = 4
  · exact G_tableIn (off := 72) (tgt := 92) dX6_strip_20 h1 (by omega) (by omega) (by rw [hv4]; rfl) (by decide) (k92 (by omega))
  exact absurd hq (by omega)
theorem k_X6_strip_17 {Γ : Gm} {Ret : Option Value → Wd → Prop} {o0 o1 o2 : Option Value} {w : Wd} (kr : Ret (some (vI (-1))) w) : G Γ m_X6_strip Ret 0 0 17 [o0, o1, o2] [] w := by
  refine G_const dX6_strip_17 ?_
  exact G_reti dX6_strip_18 trivial ⟨rfl, Nat.le_of_ble_eq_true rfl⟩ kr
theorem k_X6_strip_56 {Γ : Gm} {Ret : Option Value → Wd → Prop} {a1 z2 : Int} {p0 q1 : Nat} {o2 : Option Value} {w : Wd} (c4 : SpP Γ m_X3_lengthOfStrip [vR q1, vI a1] w z2) (kr : Ret (some (vI z2)) w) (h1 : sh w p0 = some (.inr 6) := by assumption) (h2 : wR w p0 2 = vR q1 := by assumption) (h3 : sh w q1 = some (.inr 3) := by assumption) : G Γ m_X6_strip Ret 0 0 56 [some (vR p0), some (vI a1), o2] [] w := by
  refine G_aload_n dX6_strip_56 rfl ?_
  refine G_getR dX6_strip_57 fl_RX6_16 h1 rfl h2 ?_
  refine G_iload_n dX6_strip_60 rfl ?_
  refine G_VP (as := [vI a1]) (st := []) n0_X3_lengthOfStrip dX6_strip_61 ml_RX6_102 mc_X3_lengthOfStrip rfl ⟨by decide, ⟨Nat.le_of_ble_eq_true rfl, Nat.le_of_ble_eq_true rfl⟩, Nat.le_of_ble_eq_true rfl⟩ h3 ⟨_, _, rfl⟩ c4 ?_
  exact G_reti dX6_strip_64 trivial ⟨rfl, Nat.le_of_ble_eq_true rfl⟩ kr
theorem k_X6_strip_65 {Γ : Gm} {Ret : Option Value → Wd → Prop} {a1 z2 : Int} {p0 q1 : Nat} {o2 : Option Value} {w : Wd} (c4 : SpP Γ m_X3_lightAt [vR q1, vI a1] w z2) (kr : Ret (some (vI z2)) w) (h1 : sh w p0 = some (.inr 6) := by assumption) (h2 : wR w p0 2 = vR q1 := by assumption) (h3 : sh w q1 = some (.inr 3) := by assumption) : G Γ m_X6_strip Ret 0 0 65 [some (vR p0), some (vI a1), o2] [] w := by
  refine G_aload_n dX6_strip_65 rfl ?_
  refine G_getR dX6_strip_66 fl_RX6_16 h1 rfl h2 ?_
  refine G_iload_n dX6_strip_69 rfl ?_
  refine G_VP (as := [vI a1]) (st := []) n0_X3_lightAt dX6_strip_70 ml_RX6_106 mc_X3_lightAt rfl ⟨by decide, ⟨Nat.le_of_ble_eq_true rfl, Nat.le_of_ble_eq_true rfl⟩, Nat.le_of_ble_eq_true rfl⟩ h3 ⟨_, _, rfl⟩ c4 ?_
  exact G_reti dX6_strip_73 trivial ⟨rfl, Nat.le_of_ble_eq_true rfl⟩ kr
theorem k_X6_strip_74 {Γ : Gm} {Ret : Option Value → Wd → Prop} {a1 z2 : Int} {p0 q1 : Nat} {o2 : Option Value} {w : Wd} (c4 : SpP Γ m_X3_treadAt [vR q1, vI a1] w z2) (kr : Ret (some (vI z2)) w) (h1 : sh w p0 = some (.inr 6) := by assumption) (h2 : wR w p0 2 = vR q1 := by assumption) (h3 : sh w q1 = some (.inr 3) := by assumption) : G Γ m_X6_strip Ret 0 0 74 [some (vR p0), some (vI a1), o2] [] w := by
  refine G_aload_n dX6_strip_74 rfl ?_
  refine G_getR dX6_strip_75 fl_RX6_16 h1 rfl h2 ?_
  refine G_iload_n dX6_strip_78 rfl ?_
  refine G_VP (as := [vI a1]) (st := []) n0_X3_treadAt dX6_strip_79 ml_RX6_109 mc_X3_treadAt rfl ⟨by decide, ⟨Nat.le_of_ble_eq_true rfl, Nat.le_of_ble_eq_true rfl⟩, Nat.le_of_ble_eq_true rfl⟩ h3 ⟨_, _, rfl⟩ c4 ?_
  exact G_reti dX6_strip_82 trivial ⟨rfl, Nat.le_of_ble_eq_true rfl⟩ kr
theorem k_X6_strip_83 {Γ : Gm} {Ret : Option Value → Wd → Prop} {a1 z2 : Int} {p0 q1 : Nat} {o2 : Option Value} {w : Wd} (c4 : SpP Γ m_X0_lengthOver [vR q1, vI a1] w z2) (kr : Ret (some (vI z2)) w) (h1 : sh w p0 = some (.inr 6) := by assumption) (h2 : wR w p0 4 = vR q1 := by assumption) (h3 : sh w q1 = some (.inr 0) := by assumption) : G Γ m_X6_strip Ret 0 0 83 [some (vR p0), some (vI a1), o2] [] w := by
  refine G_aload_n dX6_strip_83 rfl ?_
  refine G_getR dX6_strip_84 fl_RX6_26 h1 rfl h2 ?_
  refine G_iload_n dX6_strip_87 rfl ?_
  refine G_VP (as := [vI a1]) (st := []) n0_X0_lengthOver dX6_strip_88 ml_RX6_112 mc_X0_lengthOver rfl ⟨by decide, ⟨Nat.le_of_ble_eq_true rfl, Nat.le_of_ble_eq_true rfl⟩, Nat.le_of_ble_eq_true rfl⟩ h3 ⟨_, _, rfl⟩ c4 ?_
  exact G_reti dX6_strip_91 trivial ⟨rfl, Nat.le_of_ble_eq_true rfl⟩ kr
theorem k_X6_strip_92 {Γ : Gm} {Ret : Option Value → Wd → Prop} {a1 z2 : Int} {p0 q1 : Nat} {o2 : Option Value} {w : Wd} (c4 : SpP Γ m_X0_isSeamAt [vR q1, vI a1] w z2) (kt : z2 = 0 → G Γ m_X6_strip Ret 0 0 107 [some (vR p0), some (vI a1), o2] [] w) (kf : ¬ (z2 = 0) → G Γ m_X6_strip Ret 0 0 103 [some (vR p0), some (vI a1), o2] [] w) (h1 : sh w p0 = some (.inr 6) := by assumption) (h2 : wR w p0 4 = vR q1 := by assumption) (h3 : sh w q1 = some (.inr 0) := by assumption) (h5 : sm z2 := by omega) : G Γ m_X6_strip Ret 0 0 92 [some (vR p0), some (vI a1), o2] [] w := by
  refine G_aload_n dX6_strip_92 rfl ?_
  refine G_getR dX6_strip_93 fl_RX6_26 h1 rfl h2 ?_
  refine G_iload_n dX6_strip_96 rfl ?_
  refine G_VP (as := [vI a1]) (st := []) n0_X0_isSeamAt dX6_strip_97 ml_RX6_115 mc_X0_isSeamAt rfl ⟨by decide, ⟨Nat.le_of_ble_eq_true rfl, Nat.le_of_ble_eq_true rfl⟩, Nat.le_of_ble_eq_true rfl⟩ h3 ⟨_, _, rfl⟩ c4 ?_
  exact G_if_eq dX6_strip_100 (by decide) h5 kt kf
theorem k_X6_strip_109 {Γ : Gm} {Ret : Option Value → Wd → Prop} {o0 o1 o2 : Option Value} {w : Wd} (kr : Ret (some (vI (-1))) w) : G Γ m_X6_strip Ret 0 0 109 [o0, o1, o2] [] w := by
  refine G_const dX6_strip_109 ?_
  exact G_reti dX6_strip_110 trivial ⟨rfl, Nat.le_of_ble_eq_true rfl⟩ kr
theorem k_X6_strip_107 {Γ : Gm} {Ret : Option Value → Wd → Prop} {o0 o1 o2 : Option Value} {w : Wd} (kr : Ret (some (vI 0)) w) : G Γ m_X6_strip Ret 0 0 107 [o0, o1, o2] [] w := by
  refine G_const dX6_strip_107 ?_
  exact G_reti dX6_strip_108 trivial ⟨rfl, Nat.le_of_ble_eq_true rfl⟩ kr
theorem k_X6_strip_103 {Γ : Gm} {Ret : Option Value → Wd → Prop} {o0 o1 o2 : Option Value} {w : Wd} (kr : Ret (some (vI 1)) w) : G Γ m_X6_strip Ret 0 0 103 [o0, o1, o2] [] w := by
  refine G_const dX6_strip_103 ?_
  refine G_goto dX6_strip_104 (tgt := 108) (by decide) ?_
  exact G_reti dX6_strip_108 trivial ⟨rfl, Nat.le_of_ble_eq_true rfl⟩ kr
theorem k_X6_wall_0 {Γ : Gm} {Ret : Option Value → Wd → Prop} {a1 a2 z1 : Int} {p0 : Nat} {w : Wd} (c1 : SpP Γ m_X6_isWall [vI a1] w z1) (kt : z1 ≠ 0 → G Γ m_X6_wall Ret 0 0 9 [some (vR p0), some (vI a1), some (vI a2)] [] w) (kf : z1 = 0 → G Γ m_X6_wall Ret 0 0 7 [some (vR p0), some (vI a1), some (vI a2)] [] w) (h2 : sm z1 := by omega) : G Γ m_X6_wall Ret 0 0 0 [some (vR p0), some (vI a1), some (vI a2)] [] w := by
  refine G_iload_n dX6_wall_0 rfl ?_
  refine G_SP (as := [vI a1]) (st := []) n0_X6_isWall dX6_wall_1 ml_RX6_119 mc_X6_isWall rfl ⟨by decide, ⟨Nat.le_of_ble_eq_true rfl, Nat.le_of_ble_eq_true rfl⟩, Nat.le_of_ble_eq_true rfl⟩ c1 ?_
  exact G_if_ne dX6_wall_4 (by decide) h2 kt kf
theorem k_X6_wall_9 {Γ : Gm} {Ret : Option Value → Wd → Prop} {a1 a2 : Int} {p0 : Nat} {w : Wd} (k40 : a2 = 0 → G Γ m_X6_wall Ret 0 0 40 [some (vR p0), some (vI a1), some (vI a2)] [] w) (k49 : a2 = 1 → G Γ m_X6_wall Ret 0 0 49 [some (vR p0), some (vI a1), some (vI a2)] [] w) (k66 : a2 = 2 → G Γ m_X6_wall Ret 0 0 66 [some (vR p0), some (vI a1), some (vI a2)] [] w) (k83 : a2 = 3 → G Γ m_X6_wall Ret 0 0 83 [some (vR p0), some (vI a1), some (vI a2)] [] w) (kd : (a2 ≠ 0 ∧ a2 ≠ 1 ∧ a2 ≠ 2 ∧ a2 ≠ 3) → G Γ m_X6_wall Ret 0 0 100 [some (vR p0), some (vI a1), some (vI a2)] [] w) (h1 : sm a2 := by omega) : G Γ m_X6_wall Ret 0 0 9 [some (vR p0), some (vI a1), some (vI a2)] [] w := by
  refine G_iload_n dX6_wall_9 rfl ?_
  by_cases hq : a2 < 0 ∨ 3 < a2
  · exact G_tableOut dX6_wall_10 h1 hq (by decide) (kd (by omega))
  by_cases hv0 : a2 = 0
  · exact G_tableIn (off := 30) (tgt := 40) dX6_wall_10 h1 (by omega) (by omega) (by rw [hv0]; rfl) (by decide) (k40 (by omega))
  by_cases hv1 : a2 = 1
  · exact G_tableIn (off := 39) (tgt := 49) dX6_wall_10 h1 (by omega) (by omega) (by rw [hv1]; rfl) (by decide) (k49 (by omega))
  by_cases hv2 : a2 = 2
  · exact G_tableIn (off := 56) (tgt := 66) dX6_wall_10 h1 (by omega) (by omega) (by rw [hv2]; rfl) (by decide) (k66 (by omega))
  by_cases hv3 : a2 = 3
  · exact G_tableIn (off := 73) (tgt := 83) dX6_wall_10 h1 (by omega) (by omega) (by rw [hv3]; rfl) (by decide) (k83 (by omega))
  exact absurd hq (by omega)
theorem k_X6_wall_7 {Γ : Gm} {Ret : Option Value → Wd → Prop} {o0 o1 o2 : Option Value} {w : Wd} (kr : Ret (some (vI (-1))) w) : G Γ m_X6_wall Ret 0 0 7 [o0, o1, o2] [] w := by
  refine G_const dX6_wall_7 ?_
  exact G_reti dX6_wall_8 trivial ⟨rfl, Nat.le_of_ble_eq_true rfl⟩ kr
theorem k_X6_wall_40 {Γ : Gm} {Ret : Option Value → Wd → Prop} {a1 z2 : Int} {p0 q1 : Nat} {o2 : Option Value} {w : Wd} (c4 : SpP Γ m_X0_tightness [vR q1, vI a1] w z2) (kr : Ret (some (vI z2)) w) (h1 : sh w p0 = some (.inr 6) := by assumption) (h2 : wR w p0 4 = vR q1 := by assumption) (h3 : sh w q1 = some (.inr 0) := by assumption) : G Γ m_X6_wall Ret 0 0 40 [some (vR p0), some (vI a1), o2] [] w := by
  refine G_aload_n dX6_wall_40 rfl ?_
  refine G_getR dX6_wall_41 fl_RX6_26 h1 rfl h2 ?_
  refine G_iload_n dX6_wall_44 rfl ?_
  refine G_VP (as := [vI a1]) (st := []) n0_X0_tightness dX6_wall_45 ml_RX6_122 mc_X0_tightness rfl ⟨by decide, ⟨Nat.le_of_ble_eq_true rfl, Nat.le_of_ble_eq_true rfl⟩, Nat.le_of_ble_eq_true rfl⟩ h3 ⟨_, _, rfl⟩ c4 ?_
  exact G_reti dX6_wall_48 trivial ⟨rfl, Nat.le_of_ble_eq_true rfl⟩ kr
theorem k_X6_wall_49 {Γ : Gm} {Ret : Option Value → Wd → Prop} {a1 z2 : Int} {p0 q1 : Nat} {o2 : Option Value} {w : Wd} (c4 : SpP Γ m_X0_isHooked [vR q1, vI a1] w z2) (kt : z2 = 0 → G Γ m_X6_wall Ret 0 0 64 [some (vR p0), some (vI a1), o2] [] w) (kf : ¬ (z2 = 0) → G Γ m_X6_wall Ret 0 0 60 [some (vR p0), some (vI a1), o2] [] w) (h1 : sh w p0 = some (.inr 6) := by assumption) (h2 : wR w p0 4 = vR q1 := by assumption) (h3 : sh w q1 = some (.inr 0) := by assumption) (h5 : sm z2 := by omega) : G Γ m_X6_wall Ret 0 0 49 [some (vR p0), some (vI a1), o2] [] w := by
  refine G_aload_n dX6_wall_49 rfl ?_
  refine G_getR dX6_wall_50 fl_RX6_26 h1 rfl h2 ?_
  refine G_iload_n dX6_wall_53 rfl ?_
  refine G_VP (as := [vI a1]) (st := []) n0_X0_isHooked dX6_wall_54 ml_RX6_125 mc_X0_isHooked rfl ⟨by decide, ⟨Nat.le_of_ble_eq_true rfl, Nat.le_of_ble_eq_true rfl⟩, Nat.le_of_ble_eq_true rfl⟩ h3 ⟨_, _, rfl⟩ c4 ?_
  exact G_if_eq dX6_wall_57 (by decide) h5 kt kf
theorem k_X6_wall_66 {Γ : Gm} {Ret : Option Value → Wd → Prop} {a1 z2 : Int} {p0 q1 : Nat} {o2 : Option Value} {w : Wd} (c4 : SpP Γ m_X0_isTorn [vR q1, vI a1] w z2) (kt : z2 = 0 → G Γ m_X6_wall Ret 0 0 81 [some (vR p0), some (vI a1), o2] [] w) (kf : ¬ (z2 = 0) → G Γ m_X6_wall Ret 0 0 77 [some (vR p0), some (vI a1), o2] [] w) (h1 : sh w p0 = some (.inr 6) := by assumption) (h2 : wR w p0 4 = vR q1 := by assumption) (h3 : sh w q1 = some (.inr 0) := by assumption) (h5 : sm z2 := by omega) : G Γ m_X6_wall Ret 0 0 66 [some (vR p0), some (vI a1), o2] [] w := by
  refine G_aload_n dX6_wall_66 rfl ?_
  refine G_getR dX6_wall_67 fl_RX6_26 h1 rfl h2 ?_
  refine G_iload_n dX6_wall_70 rfl ?_
  refine G_VP (as := [vI a1]) (st := []) n0_X0_isTorn dX6_wall_71 ml_RX6_128 mc_X0_isTorn rfl ⟨by decide, ⟨Nat.le_of_ble_eq_true rfl, Nat.le_of_ble_eq_true rfl⟩, Nat.le_of_ble_eq_true rfl⟩ h3 ⟨_, _, rfl⟩ c4 ?_
  exact G_if_eq dX6_wall_74 (by decide) h5 kt kf
theorem k_X6_wall_83 {Γ : Gm} {Ret : Option Value → Wd → Prop} {a1 z2 : Int} {p0 q1 : Nat} {o2 : Option Value} {w : Wd} (c4 : SpP Γ m_X0_isWaving [vR q1, vI a1] w z2) (kt : z2 = 0 → G Γ m_X6_wall Ret 0 0 98 [some (vR p0), some (vI a1), o2] [] w) (kf : ¬ (z2 = 0) → G Γ m_X6_wall Ret 0 0 94 [some (vR p0), some (vI a1), o2] [] w) (h1 : sh w p0 = some (.inr 6) := by assumption) (h2 : wR w p0 4 = vR q1 := by assumption) (h3 : sh w q1 = some (.inr 0) := by assumption) (h5 : sm z2 := by omega) : G Γ m_X6_wall Ret 0 0 83 [some (vR p0), some (vI a1), o2] [] w := by
  refine G_aload_n dX6_wall_83 rfl ?_
  refine G_getR dX6_wall_84 fl_RX6_26 h1 rfl h2 ?_
  refine G_iload_n dX6_wall_87 rfl ?_
  refine G_VP (as := [vI a1]) (st := []) n0_X0_isWaving dX6_wall_88 ml_RX6_131 mc_X0_isWaving rfl ⟨by decide, ⟨Nat.le_of_ble_eq_true rfl, Nat.le_of_ble_eq_true rfl⟩, Nat.le_of_ble_eq_true rfl⟩ h3 ⟨_, _, rfl⟩ c4 ?_
  exact G_if_eq dX6_wall_91 (by decide) h5 kt kf
theorem k_X6_wall_100 {Γ : Gm} {Ret : Option Value → Wd → Prop} {o0 o1 o2 : Option Value} {w : Wd} (kr : Ret (some (vI (-1))) w) : G Γ m_X6_wall Ret 0 0 100 [o0, o1, o2] [] w := by
  refine G_const dX6_wall_100 ?_
  exact G_reti dX6_wall_101 trivial ⟨rfl, Nat.le_of_ble_eq_true rfl⟩ kr
theorem k_X6_wall_64 {Γ : Gm} {Ret : Option Value → Wd → Prop} {o0 o1 o2 : Option Value} {w : Wd} (kr : Ret (some (vI 0)) w) : G Γ m_X6_wall Ret 0 0 64 [o0, o1, o2] [] w := by
  refine G_const dX6_wall_64 ?_
  exact G_reti dX6_wall_65 trivial ⟨rfl, Nat.le_of_ble_eq_true rfl⟩ kr
theorem k_X6_wall_60 {Γ : Gm} {Ret : Option Value → Wd → Prop} {o0 o1 o2 : Option Value} {w : Wd} (kr : Ret (some (vI 1)) w) : G Γ m_X6_wall Ret 0 0 60 [o0, o1, o2] [] w := by
  refine G_const dX6_wall_60 ?_
  refine G_goto dX6_wall_61 (tgt := 65) (by decide) ?_
  exact G_reti dX6_wall_65 trivial ⟨rfl, Nat.le_of_ble_eq_true rfl⟩ kr
theorem k_X6_wall_81 {Γ : Gm} {Ret : Option Value → Wd → Prop} {o0 o1 o2 : Option Value} {w : Wd} (kr : Ret (some (vI 0)) w) : G Γ m_X6_wall Ret 0 0 81 [o0, o1, o2] [] w := by
  refine G_const dX6_wall_81 ?_
  exact G_reti dX6_wall_82 trivial ⟨rfl, Nat.le_of_ble_eq_true rfl⟩ kr
theorem k_X6_wall_77 {Γ : Gm} {Ret : Option Value → Wd → Prop} {o0 o1 o2 : Option Value} {w : Wd} (kr : Ret (some (vI 1)) w) : G Γ m_X6_wall Ret 0 0 77 [o0, o1, o2] [] w := by
  refine G_const dX6_wall_77 ?_
  refine G_goto dX6_wall_78 (tgt := 82) (by decide) ?_
  exact G_reti dX6_wall_82 trivial ⟨rfl, Nat.le_of_ble_eq_true rfl⟩ kr
theorem k_X6_wall_98 {Γ : Gm} {Ret : Option Value → Wd → Prop} {o0 o1 o2 : Option Value} {w : Wd} (kr : Ret (some (vI 0)) w) : G Γ m_X6_wall Ret 0 0 98 [o0, o1, o2] [] w := by
  refine G_const dX6_wall_98 ?_
  exact G_reti dX6_wall_99 trivial ⟨rfl, Nat.le_of_ble_eq_true rfl⟩ kr
theorem k_X6_wall_94 {Γ : Gm} {Ret : Option Value → Wd → Prop} {o0 o1 o2 : Option Value} {w : Wd} (kr : Ret (some (vI 1)) w) : G Γ m_X6_wall Ret 0 0 94 [o0, o1, o2] [] w := by
  refine G_const dX6_wall_94 ?_
  refine G_goto dX6_wall_95 (tgt := 99) (by decide) ?_
  exact G_reti dX6_wall_99 trivial ⟨rfl, Nat.le_of_ble_eq_true rfl⟩ kr
theorem k_X6_damp_0 {Γ : Gm} {Ret : Option Value → Wd → Prop} {a1 z1 : Int} {p0 : Nat} {w : Wd} (c1 : SpP Γ m_X6_within [vI a1, vI 0, vI 999] w z1) (kt : z1 = 0 → G Γ m_X6_damp Ret 0 0 22 [some (vR p0), some (vI a1)] [] w) (kf : ¬ (z1 = 0) → G Γ m_X6_damp Ret 0 0 11 [some (vR p0), some (vI a1)] [] w) (h2 : sm z1 := by omega) : G Γ m_X6_damp Ret 0 0 0 [some (vR p0), some (vI a1)] [] w := by
  refine G_iload_n dX6_damp_0 rfl ?_
  refine G_const dX6_damp_1 ?_
  refine G_sipush dX6_damp_2 (by decide +kernel) ?_
  refine G_SP (as := [vI a1, vI 0, vI 999]) (st := []) n0_X6_within dX6_damp_5 ml_RX6_89 mc_X6_within rfl ⟨by decide, ⟨Nat.le_of_ble_eq_true rfl, Nat.le_of_ble_eq_true rfl⟩, Nat.le_of_ble_eq_true rfl⟩ c1 ?_
  exact G_if_eq dX6_damp_8 (by decide) h2 kt kf
theorem k_X6_damp_22 {Γ : Gm} {Ret : Option Value → Wd → Prop} {o0 o1 : Option Value} {w : Wd} (kr : Ret (some (vI (-1))) w) : G Γ m_X6_damp Ret 0 0 22 [o0, o1] [] w := by
  refine G_const dX6_damp_22 ?_
  exact G_reti dX6_damp_23 trivial ⟨rfl, Nat.le_of_ble_eq_true rfl⟩ kr
theorem k_X6_damp_11 {Γ : Gm} {Ret : Option Value → Wd → Prop} {a1 z2 : Int} {p0 q1 : Nat} {w : Wd} (c4 : SpP Γ m_X3_dampOf [vR q1, vI a1] w z2) (kr : Ret (some (vI z2)) w) (h1 : sh w p0 = some (.inr 6) := by assumption) (h2 : wR w p0 2 = vR q1 := by assumption) (h3 : sh w q1 = some (.inr 3) := by assumption) : G Γ m_X6_damp Ret 0 0 11 [some (vR p0), some (vI a1)] [] w := by
  refine G_aload_n dX6_damp_11 rfl ?_
  refine G_getR dX6_damp_12 fl_RX6_16 h1 rfl h2 ?_
  refine G_iload_n dX6_damp_15 rfl ?_
  refine G_VP (as := [vI a1]) (st := []) n0_X3_dampOf dX6_damp_16 ml_RX6_134 mc_X3_dampOf rfl ⟨by decide, ⟨Nat.le_of_ble_eq_true rfl, Nat.le_of_ble_eq_true rfl⟩, Nat.le_of_ble_eq_true rfl⟩ h3 ⟨_, _, rfl⟩ c4 ?_
  refine G_goto dX6_damp_19 (tgt := 23) (by decide) ?_
  exact G_reti dX6_damp_23 trivial ⟨rfl, Nat.le_of_ble_eq_true rfl⟩ kr
theorem k_X6_cut_0 {Γ : Gm} {Ret : Option Value → Wd → Prop} {a1 z1 : Int} {p0 : Nat} {w : Wd} (c1 : SpP Γ m_X6_within [vI a1, vI 1, vI 6] w z1) (kt : z1 ≠ 0 → G Γ m_X6_cut Ret 0 0 12 [some (vR p0), some (vI a1)] [] w) (kf : z1 = 0 → G Γ m_X6_cut Ret 0 0 10 [some (vR p0), some (vI a1)] [] w) (h2 : sm z1 := by omega) : G Γ m_X6_cut Ret 0 0 0 [some (vR p0), some (vI a1)] [] w := by
  refine G_iload_n dX6_cut_0 rfl ?_
  refine G_const dX6_cut_1 ?_
  refine G_bipush dX6_cut_2 (by decide +kernel) ?_
  refine G_SP (as := [vI a1, vI 1, vI 6]) (st := []) n0_X6_within dX6_cut_4 ml_RX6_89 mc_X6_within rfl ⟨by decide, ⟨Nat.le_of_ble_eq_true rfl, Nat.le_of_ble_eq_true rfl⟩, Nat.le_of_ble_eq_true rfl⟩ c1 ?_
  exact G_if_ne dX6_cut_7 (by decide) h2 kt kf
theorem k_X6_cut_12 {Γ : Gm} {Ret : Option Value → Wd → Prop} {a1 z3 : Int} {p0 q1 q2 : Nat} {w : Wd} (c5 : SpP Γ m_X0_canCut [vR q1, vR q2, vI a1] w z3) (kt : z3 ≠ 0 → G Γ m_X6_cut Ret 0 0 30 [some (vR p0), some (vI a1)] [] w) (kf : z3 = 0 → G Γ m_X6_cut Ret 0 0 27 [some (vR p0), some (vI a1)] [] w) (h1 : sh w p0 = some (.inr 6) := by assumption) (h2 : wR w p0 4 = vR q1 := by assumption) (h3 : wR w p0 2 = vR q2 := by assumption) (h4 : sh w q1 = some (.inr 0) := by assumption) (h6 : sm z3 := by omega) : G Γ m_X6_cut Ret 0 0 12 [some (vR p0), some (vI a1)] [] w := by
  refine G_aload_n dX6_cut_12 rfl ?_
  refine G_getR dX6_cut_13 fl_RX6_26 h1 rfl h2 ?_
  refine G_aload_n dX6_cut_16 rfl ?_
  refine G_getR dX6_cut_17 fl_RX6_16 h1 rfl h3 ?_
  refine G_iload_n dX6_cut_20 rfl ?_
  refine G_VP (as := [vR q2, vI a1]) (st := []) n0_X0_canCut dX6_cut_21 ml_RX6_137 mc_X0_canCut rfl ⟨by decide, ⟨Nat.le_of_ble_eq_true rfl, Nat.le_of_ble_eq_true rfl⟩, Nat.le_of_ble_eq_true rfl⟩ h4 ⟨_, _, rfl⟩ c5 ?_
  exact G_if_ne dX6_cut_24 (by decide) h6 kt kf
theorem k_X6_cut_10 {Γ : Gm} {Ret : Option Value → Wd → Prop} {o0 o1 : Option Value} {w : Wd} (kr : Ret (some (vI (-1))) w) : G Γ m_X6_cut Ret 0 0 10 [o0, o1] [] w := by
  refine G_const dX6_cut_10 ?_
  exact G_reti dX6_cut_11 trivial ⟨rfl, Nat.le_of_ble_eq_true rfl⟩ kr
theorem k_X6_cut_30 {Γ : Gm} {Ret : Option Value → Wd → Prop} {a1 : Int} {p0 q1 q2 : Nat} {w : Wd} {Q : Wd → Prop} (c5 : SpV Γ m_X4_push [vR q1, vR q2] w Q) (kq : ∀ u : Wd, Q u → G Γ m_X6_cut Ret 0 0 41 [some (vR p0), some (vI a1)] [] u) (h1 : sh w p0 = some (.inr 6) := by assumption) (h2 : wR w p0 6 = vR q1 := by assumption) (h3 : wR w p0 4 = vR q2 := by assumption) (h4 : sh w q1 = some (.inr 4) := by assumption) : G Γ m_X6_cut Ret 0 0 30 [some (vR p0), some (vI a1)] [] w := by
  refine G_aload_n dX6_cut_30 rfl ?_
  refine G_getR dX6_cut_31 fl_RX6_38 h1 rfl h2 ?_
  refine G_aload_n dX6_cut_34 rfl ?_
  refine G_getR dX6_cut_35 fl_RX6_26 h1 rfl h3 ?_
  exact G_VV (as := [vR q2]) (st := []) n0_X4_push dX6_cut_38 ml_RX6_141 mc_X4_push rfl ⟨by decide, ⟨Nat.le_of_ble_eq_true rfl, Nat.le_of_ble_eq_true rfl⟩, Nat.le_of_ble_eq_true rfl⟩ h4 ⟨_, _, rfl⟩ c5 (fun u hq => kq u hq)
theorem k_X6_cut_27 {Γ : Gm} {Ret : Option Value → Wd → Prop} {o0 o1 : Option Value} {w : Wd} (kr : Ret (some (vI (-2))) w) : G Γ m_X6_cut Ret 0 0 27 [o0, o1] [] w := by
  refine G_bipush dX6_cut_27 (by decide +kernel) ?_
  exact G_reti dX6_cut_29 trivial ⟨rfl, Nat.le_of_ble_eq_true rfl⟩ kr
theorem k_X6_cut_41 {Γ : Gm} {Ret : Option Value → Wd → Prop} {a1 : Int} {p0 q1 q2 : Nat} {w : Wd} {Q : Int → Wd → Prop} (c5 : SpI Γ m_X0_cutFor [vR q1, vR q2, vI a1] w Q) (kq : ∀ (z : Int) (u : Wd), Q z u → G Γ m_X6_cut Ret 0 0 53 [some (vR p0), some (vI a1)] [vI z] u) (h1 : sh w p0 = some (.inr 6) := by assumption) (h2 : wR w p0 4 = vR q1 := by assumption) (h3 : wR w p0 2 = vR q2 := by assumption) (h4 : sh w q1 = some (.inr 0) := by assumption) : G Γ m_X6_cut Ret 0 0 41 [some (vR p0), some (vI a1)] [] w := by
  refine G_aload_n dX6_cut_41 rfl ?_
  refine G_getR dX6_cut_42 fl_RX6_26 h1 rfl h2 ?_
  refine G_aload_n dX6_cut_45 rfl ?_
  refine G_getR dX6_cut_46 fl_RX6_16 h1 rfl h3 ?_
  refine G_iload_n dX6_cut_49 rfl ?_
  exact G_VI (as := [vR q2, vI a1]) (st := []) n0_X0_cutFor dX6_cut_50 ml_RX6_145 mc_X0_cutFor rfl ⟨by decide, ⟨Nat.le_of_ble_eq_true rfl, Nat.le_of_ble_eq_true rfl⟩, Nat.le_of_ble_eq_true rfl⟩ h4 ⟨_, _, rfl⟩ c5 (fun z u hq => kq z u hq)
theorem k_X6_cut_53 {Γ : Gm} {Ret : Option Value → Wd → Prop} {s0 : Int} {o0 o1 : Option Value} {w : Wd} (kr : Ret (some (vI s0)) w) : G Γ m_X6_cut Ret 0 0 53 [o0, o1] [vI s0] w := by
  exact G_reti dX6_cut_53 trivial ⟨rfl, Nat.le_of_ble_eq_true rfl⟩ kr
theorem k_X6_hook_0 {Γ : Gm} {Ret : Option Value → Wd → Prop} {a1 a2 z1 : Int} {p0 : Nat} {w : Wd} (c1 : SpP Γ m_X6_isWall [vI a1] w z1) (kt : z1 = 0 → G Γ m_X6_hook Ret 0 0 17 [some (vR p0), some (vI a1), some (vI a2)] [] w) (kf : ¬ (z1 = 0) → G Γ m_X6_hook Ret 0 0 7 [some (vR p0), some (vI a1), some (vI a2)] [] w) (h2 : sm z1 := by omega) : G Γ m_X6_hook Ret 0 0 0 [some (vR p0), some (vI a1), some (vI a2)] [] w := by
  refine G_iload_n dX6_hook_0 rfl ?_
  refine G_SP (as := [vI a1]) (st := []) n0_X6_isWall dX6_hook_1 ml_RX6_119 mc_X6_isWall rfl ⟨by decide, ⟨Nat.le_of_ble_eq_true rfl, Nat.le_of_ble_eq_true rfl⟩, Nat.le_of_ble_eq_true rfl⟩ c1 ?_
  exact G_if_eq dX6_hook_4 (by decide) h2 kt kf
theorem k_X6_hook_17 {Γ : Gm} {Ret : Option Value → Wd → Prop} {o0 o1 o2 : Option Value} {w : Wd} (kr : Ret (some (vI (-1))) w) : G Γ m_X6_hook Ret 0 0 17 [o0, o1, o2] [] w := by
  refine G_const dX6_hook_17 ?_
  exact G_reti dX6_hook_18 trivial ⟨rfl, Nat.le_of_ble_eq_true rfl⟩ kr
theorem k_X6_hook_7 {Γ : Gm} {Ret : Option Value → Wd → Prop} {a1 a2 z1 : Int} {p0 : Nat} {w : Wd} (c1 : SpP Γ m_X6_within [vI a2, vI 0, vI 20] w z1) (kt : z1 ≠ 0 → G Γ m_X6_hook Ret 0 0 19 [some (vR p0), some (vI a1), some (vI a2)] [] w) (kf : z1 = 0 → G Γ m_X6_hook Ret 0 0 17 [some (vR p0), some (vI a1), some (vI a2)] [] w) (h2 : sm z1 := by omega) : G Γ m_X6_hook Ret 0 0 7 [some (vR p0), some (vI a1), some (vI a2)] [] w := by
  refine G_iload_n dX6_hook_7 rfl ?_
  refine G_const dX6_hook_8 ?_
  refine G_bipush dX6_hook_9 (by decide +kernel) ?_
  refine G_SP (as := [vI a2, vI 0, vI 20]) (st := []) n0_X6_within dX6_hook_11 ml_RX6_89 mc_X6_within rfl ⟨by decide, ⟨Nat.le_of_ble_eq_true rfl, Nat.le_of_ble_eq_true rfl⟩, Nat.le_of_ble_eq_true rfl⟩ c1 ?_
  exact G_if_ne dX6_hook_14 (by decide) h2 kt kf
theorem k_X6_hook_19 {Γ : Gm} {Ret : Option Value → Wd → Prop} {a1 a2 z3 : Int} {p0 q1 q2 : Nat} {w : Wd} (c5 : SpP Γ m_X0_isCovered [vR q1, vR q2] w z3) (kt : z3 = 0 → G Γ m_X6_hook Ret 0 0 44 [some (vR p0), some (vI a1), some (vI a2)] [] w) (kf : ¬ (z3 = 0) → G Γ m_X6_hook Ret 0 0 33 [some (vR p0), some (vI a1), some (vI a2)] [] w) (h1 : sh w p0 = some (.inr 6) := by assumption) (h2 : wR w p0 4 = vR q1 := by assumption) (h3 : wR w p0 2 = vR q2 := by assumption) (h4 : sh w q1 = some (.inr 0) := by assumption) (h6 : sm z3 := by omega) : G Γ m_X6_hook Ret 0 0 19 [some (vR p0), some (vI a1), some (vI a2)] [] w := by
  refine G_aload_n dX6_hook_19 rfl ?_
  refine G_getR dX6_hook_20 fl_RX6_26 h1 rfl h2 ?_
  refine G_aload_n dX6_hook_23 rfl ?_
  refine G_getR dX6_hook_24 fl_RX6_16 h1 rfl h3 ?_
  refine G_VP (as := [vR q2]) (st := []) n0_X0_isCovered dX6_hook_27 ml_RX6_149 mc_X0_isCovered rfl ⟨by decide, ⟨Nat.le_of_ble_eq_true rfl, Nat.le_of_ble_eq_true rfl⟩, Nat.le_of_ble_eq_true rfl⟩ h4 ⟨_, _, rfl⟩ c5 ?_
  exact G_if_eq dX6_hook_30 (by decide) h6 kt kf
theorem k_X6_hook_44 {Γ : Gm} {Ret : Option Value → Wd → Prop} {o0 o1 o2 : Option Value} {w : Wd} (kr : Ret (some (vI (-2))) w) : G Γ m_X6_hook Ret 0 0 44 [o0, o1, o2] [] w := by
  refine G_bipush dX6_hook_44 (by decide +kernel) ?_
  exact G_reti dX6_hook_46 trivial ⟨rfl, Nat.le_of_ble_eq_true rfl⟩ kr
theorem k_X6_hook_33 {Γ : Gm} {Ret : Option Value → Wd → Prop} {a1 a2 z2 : Int} {p0 q1 : Nat} {w : Wd} (c4 : SpP Γ m_X0_isFree [vR q1, vI a1] w z2) (kt : z2 ≠ 0 → G Γ m_X6_hook Ret 0 0 47 [some (vR p0), some (vI a1), some (vI a2)] [] w) (kf : z2 = 0 → G Γ m_X6_hook Ret 0 0 44 [some (vR p0), some (vI a1), some (vI a2)] [] w) (h1 : sh w p0 = some (.inr 6) := by assumption) (h2 : wR w p0 4 = vR q1 := by assumption) (h3 : sh w q1 = some (.inr 0) := by assumption) (h5 : sm z2 := by omega) : G Γ m_X6_hook Ret 0 0 33 [some (vR p0), some (vI a1), some (vI a2)] [] w := by
  refine G_aload_n dX6_hook_33 rfl ?_
  refine G_getR dX6_hook_34 fl_RX6_26 h1 rfl h2 ?_
  refine G_iload_n dX6_hook_37 rfl ?_
  refine G_VP (as := [vI a1]) (st := []) n0_X0_isFree dX6_hook_38 ml_RX6_153 mc_X0_isFree rfl ⟨by decide, ⟨Nat.le_of_ble_eq_true rfl, Nat.le_of_ble_eq_true rfl⟩, Nat.le_of_ble_eq_true rfl⟩ h3 ⟨_, _, rfl⟩ c4 ?_
  exact G_if_ne dX6_hook_41 (by decide) h5 kt kf
theorem k_X6_hook_47 {Γ : Gm} {Ret : Option Value → Wd → Prop} {a1 a2 : Int} {p0 q1 q2 : Nat} {w : Wd} {Q : Wd → Prop} (c5 : SpV Γ m_X4_push [vR q1, vR q2] w Q) (kq : ∀ u : Wd, Q u → G Γ m_X6_hook Ret 0 0 58 [some (vR p0), some (vI a1), some (vI a2)] [] u) (h1 : sh w p0 = some (.inr 6) := by assumption) (h2 : wR w p0 6 = vR q1 := by assumption) (h3 : wR w p0 4 = vR q2 := by assumption) (h4 : sh w q1 = some (.inr 4) := by assumption) : G Γ m_X6_hook Ret 0 0 47 [some (vR p0), some (vI a1), some (vI a2)] [] w := by
  refine G_aload_n dX6_hook_47 rfl ?_
  refine G_getR dX6_hook_48 fl_RX6_38 h1 rfl h2 ?_
  refine G_aload_n dX6_hook_51 rfl ?_
  refine G_getR dX6_hook_52 fl_RX6_26 h1 rfl h3 ?_
  exact G_VV (as := [vR q2]) (st := []) n0_X4_push dX6_hook_55 ml_RX6_141 mc_X4_push rfl ⟨by decide, ⟨Nat.le_of_ble_eq_true rfl, Nat.le_of_ble_eq_true rfl⟩, Nat.le_of_ble_eq_true rfl⟩ h4 ⟨_, _, rfl⟩ c5 (fun u hq => kq u hq)
theorem k_X6_hook_58 {Γ : Gm} {Ret : Option Value → Wd → Prop} {a1 a2 : Int} {p0 q1 q2 : Nat} {w : Wd} {Q : Int → Wd → Prop} (c5 : SpI Γ m_X0_hookOn [vR q1, vR q2, vI a1, vI a2] w Q) (kq : ∀ (z : Int) (u : Wd), Q z u → G Γ m_X6_hook Ret 0 0 71 [some (vR p0), some (vI a1), some (vI a2)] [vI z] u) (h1 : sh w p0 = some (.inr 6) := by assumption) (h2 : wR w p0 4 = vR q1 := by assumption) (h3 : wR w p0 2 = vR q2 := by assumption) (h4 : sh w q1 = some (.inr 0) := by assumption) : G Γ m_X6_hook Ret 0 0 58 [some (vR p0), some (vI a1), some (vI a2)] [] w := by
  refine G_aload_n dX6_hook_58 rfl ?_
  refine G_getR dX6_hook_59 fl_RX6_26 h1 rfl h2 ?_
  refine G_aload_n dX6_hook_62 rfl ?_
  refine G_getR dX6_hook_63 fl_RX6_16 h1 rfl h3 ?_
  refine G_iload_n dX6_hook_66 rfl ?_
  refine G_iload_n dX6_hook_67 rfl ?_
  exact G_VI (as := [vR q2, vI a1, vI a2]) (st := []) n0_X0_hookOn dX6_hook_68 ml_RX6_156 mc_X0_hookOn rfl ⟨by decide, ⟨Nat.le_of_ble_eq_true rfl, Nat.le_of_ble_eq_true rfl⟩, Nat.le_of_ble_eq_true rfl⟩ h4 ⟨_, _, rfl⟩ c5 (fun z u hq => kq z u hq)
theorem k_X6_hook_71 {Γ : Gm} {Ret : Option Value → Wd → Prop} {s0 : Int} {o0 o1 o2 : Option Value} {w : Wd} (kr : Ret (some (vI s0)) w) : G Γ m_X6_hook Ret 0 0 71 [o0, o1, o2] [vI s0] w := by
  exact G_reti dX6_hook_71 trivial ⟨rfl, Nat.le_of_ble_eq_true rfl⟩ kr
theorem k_X6_letGo_0 {Γ : Gm} {Ret : Option Value → Wd → Prop} {a1 z1 : Int} {p0 : Nat} {w : Wd} (c1 : SpP Γ m_X6_isWall [vI a1] w z1) (kt : z1 ≠ 0 → G Γ m_X6_letGo Ret 0 0 9 [some (vR p0), some (vI a1)] [] w) (kf : z1 = 0 → G Γ m_X6_letGo Ret 0 0 7 [some (vR p0), some (vI a1)] [] w) (h2 : sm z1 := by omega) : G Γ m_X6_letGo Ret 0 0 0 [some (vR p0), some (vI a1)] [] w := by
  refine G_iload_n dX6_letGo_0 rfl ?_
  refine G_SP (as := [vI a1]) (st := []) n0_X6_isWall dX6_letGo_1 ml_RX6_119 mc_X6_isWall rfl ⟨by decide, ⟨Nat.le_of_ble_eq_true rfl, Nat.le_of_ble_eq_true rfl⟩, Nat.le_of_ble_eq_true rfl⟩ c1 ?_
  exact G_if_ne dX6_letGo_4 (by decide) h2 kt kf
theorem k_X6_letGo_9 {Γ : Gm} {Ret : Option Value → Wd → Prop} {a1 z2 : Int} {p0 q1 : Nat} {w : Wd} (c4 : SpP Γ m_X0_isHooked [vR q1, vI a1] w z2) (kt : z2 ≠ 0 → G Γ m_X6_letGo Ret 0 0 23 [some (vR p0), some (vI a1)] [] w) (kf : z2 = 0 → G Γ m_X6_letGo Ret 0 0 20 [some (vR p0), some (vI a1)] [] w) (h1 : sh w p0 = some (.inr 6) := by assumption) (h2 : wR w p0 4 = vR q1 := by assumption) (h3 : sh w q1 = some (.inr 0) := by assumption) (h5 : sm z2 := by omega) : G Γ m_X6_letGo Ret 0 0 9 [some (vR p0), some (vI a1)] [] w := by
  refine G_aload_n dX6_letGo_9 rfl ?_
  refine G_getR dX6_letGo_10 fl_RX6_26 h1 rfl h2 ?_
  refine G_iload_n dX6_letGo_13 rfl ?_
  refine G_VP (as := [vI a1]) (st := []) n0_X0_isHooked dX6_letGo_14 ml_RX6_125 mc_X0_isHooked rfl ⟨by decide, ⟨Nat.le_of_ble_eq_true rfl, Nat.le_of_ble_eq_true rfl⟩, Nat.le_of_ble_eq_true rfl⟩ h3 ⟨_, _, rfl⟩ c4 ?_
  exact G_if_ne dX6_letGo_17 (by decide) h5 kt kf
theorem k_X6_letGo_7 {Γ : Gm} {Ret : Option Value → Wd → Prop} {o0 o1 : Option Value} {w : Wd} (kr : Ret (some (vI (-1))) w) : G Γ m_X6_letGo Ret 0 0 7 [o0, o1] [] w := by
  refine G_const dX6_letGo_7 ?_
  exact G_reti dX6_letGo_8 trivial ⟨rfl, Nat.le_of_ble_eq_true rfl⟩ kr
theorem k_X6_letGo_23 {Γ : Gm} {Ret : Option Value → Wd → Prop} {a1 : Int} {p0 q1 q2 : Nat} {w : Wd} {Q : Wd → Prop} (c5 : SpV Γ m_X4_push [vR q1, vR q2] w Q) (kq : ∀ u : Wd, Q u → G Γ m_X6_letGo Ret 0 0 34 [some (vR p0), some (vI a1)] [] u) (h1 : sh w p0 = some (.inr 6) := by assumption) (h2 : wR w p0 6 = vR q1 := by assumption) (h3 : wR w p0 4 = vR q2 := by assumption) (h4 : sh w q1 = some (.inr 4) := by assumption) : G Γ m_X6_letGo Ret 0 0 23 [some (vR p0), some (vI a1)] [] w := by
  refine G_aload_n dX6_letGo_23 rfl ?_
  refine G_getR dX6_letGo_24 fl_RX6_38 h1 rfl h2 ?_
  refine G_aload_n dX6_letGo_27 rfl ?_
  refine G_getR dX6_letGo_28 fl_RX6_26 h1 rfl h3 ?_
  exact G_VV (as := [vR q2]) (st := []) n0_X4_push dX6_letGo_31 ml_RX6_141 mc_X4_push rfl ⟨by decide, ⟨Nat.le_of_ble_eq_true rfl, Nat.le_of_ble_eq_true rfl⟩, Nat.le_of_ble_eq_true rfl⟩ h4 ⟨_, _, rfl⟩ c5 (fun u hq => kq u hq)
theorem k_X6_letGo_20 {Γ : Gm} {Ret : Option Value → Wd → Prop} {o0 o1 : Option Value} {w : Wd} (kr : Ret (some (vI (-2))) w) : G Γ m_X6_letGo Ret 0 0 20 [o0, o1] [] w := by
  refine G_bipush dX6_letGo_20 (by decide +kernel) ?_
  exact G_reti dX6_letGo_22 trivial ⟨rfl, Nat.le_of_ble_eq_true rfl⟩ kr
theorem k_X6_letGo_34 {Γ : Gm} {Ret : Option Value → Wd → Prop} {a1 : Int} {p0 q1 : Nat} {w : Wd} {Q : Int → Wd → Prop} (c4 : SpI Γ m_X0_unhook [vR q1, vI a1] w Q) (kq : ∀ (z : Int) (u : Wd), Q z u → G Γ m_X6_letGo Ret 0 0 42 [some (vR p0), some (vI a1)] [vI z] u) (h1 : sh w p0 = some (.inr 6) := by assumption) (h2 : wR w p0 4 = vR q1 := by assumption) (h3 : sh w q1 = some (.inr 0) := by assumption) : G Γ m_X6_letGo Ret 0 0 34 [some (vR p0), some (vI a1)] [] w := by
  refine G_aload_n dX6_letGo_34 rfl ?_
  refine G_getR dX6_letGo_35 fl_RX6_26 h1 rfl h2 ?_
  refine G_iload_n dX6_letGo_38 rfl ?_
  exact G_VI (as := [vI a1]) (st := []) n0_X0_unhook dX6_letGo_39 ml_RX6_160 mc_X0_unhook rfl ⟨by decide, ⟨Nat.le_of_ble_eq_true rfl, Nat.le_of_ble_eq_true rfl⟩, Nat.le_of_ble_eq_true rfl⟩ h3 ⟨_, _, rfl⟩ c4 (fun z u hq => kq z u hq)
theorem k_X6_letGo_42 {Γ : Gm} {Ret : Option Value → Wd → Prop} {s0 : Int} {o0 o1 : Option Value} {w : Wd} (kr : Ret (some (vI s0)) w) : G Γ m_X6_letGo Ret 0 0 42 [o0, o1] [vI s0] w := by
  exact G_reti dX6_letGo_42 trivial ⟨rfl, Nat.le_of_ble_eq_true rfl⟩ kr
theorem k_X6_pass_0 {Γ : Gm} {Ret : Option Value → Wd → Prop} {a1 z1 : Int} {p0 : Nat} {w : Wd} (c1 : SpP Γ m_X6_within [vI a1, vI 1, vI 60] w z1) (kt : z1 ≠ 0 → G Γ m_X6_pass Ret 0 0 12 [some (vR p0), some (vI a1), none] [] w) (kf : z1 = 0 → G Γ m_X6_pass Ret 0 0 10 [some (vR p0), some (vI a1), none] [] w) (h2 : sm z1 := by omega) : G Γ m_X6_pass Ret 0 0 0 [some (vR p0), some (vI a1), none] [] w := by
  refine G_iload_n dX6_pass_0 rfl ?_
  refine G_const dX6_pass_1 ?_
  refine G_bipush dX6_pass_2 (by decide +kernel) ?_
  refine G_SP (as := [vI a1, vI 1, vI 60]) (st := []) n0_X6_within dX6_pass_4 ml_RX6_89 mc_X6_within rfl ⟨by decide, ⟨Nat.le_of_ble_eq_true rfl, Nat.le_of_ble_eq_true rfl⟩, Nat.le_of_ble_eq_true rfl⟩ c1 ?_
  exact G_if_ne dX6_pass_7 (by decide) h2 kt kf
theorem k_X6_pass_12 {Γ : Gm} {Ret : Option Value → Wd → Prop} {a1 : Int} {p0 q1 : Nat} {o2 : Option Value} {w : Wd} (kt : ((wI w q1 7) + a1) ≤ 999 → G Γ m_X6_pass Ret 0 0 30 [some (vR p0), some (vI a1), o2] [] w) (kf : ¬ (((wI w q1 7) + a1) ≤ 999) → G Γ m_X6_pass Ret 0 0 27 [some (vR p0), some (vI a1), o2] [] w) (h1 : sh w p0 = some (.inr 6) := by assumption) (h2 : wR w p0 4 = vR q1 := by assumption) (h3 : sh w q1 = some (.inr 0) := by assumption) (h4 : sm ((wI w q1 7) + a1) := by omega) : G Γ m_X6_pass Ret 0 0 12 [some (vR p0), some (vI a1), o2] [] w := by
  refine G_aload_n dX6_pass_12 rfl ?_
  refine G_getR dX6_pass_13 fl_RX6_26 h1 rfl h2 ?_
  refine G_getI dX6_pass_16 fl_RX6_163 h3 rfl ?_
  refine G_iload_n dX6_pass_19 rfl ?_
  refine G_iadd dX6_pass_20 ?_
  refine G_sipush dX6_pass_21 (by decide +kernel) ?_
  exact G_icmp_le dX6_pass_24 (by decide) h4 (by decide) kt kf
theorem k_X6_pass_10 {Γ : Gm} {Ret : Option Value → Wd → Prop} {o0 o1 o2 : Option Value} {w : Wd} (kr : Ret (some (vI (-1))) w) : G Γ m_X6_pass Ret 0 0 10 [o0, o1, o2] [] w := by
  refine G_const dX6_pass_10 ?_
  exact G_reti dX6_pass_11 trivial ⟨rfl, Nat.le_of_ble_eq_true rfl⟩ kr
theorem k_X6_pass_30 {Γ : Gm} {Ret : Option Value → Wd → Prop} {a1 : Int} {p0 q1 q2 : Nat} {o2 : Option Value} {w : Wd} {Q : Wd → Prop} (c5 : SpV Γ m_X4_push [vR q1, vR q2] w Q) (kq : ∀ u : Wd, Q u → G Γ m_X6_pass Ret 0 0 41 [some (vR p0), some (vI a1), o2] [] u) (h1 : sh w p0 = some (.inr 6) := by assumption) (h2 : wR w p0 6 = vR q1 := by assumption) (h3 : wR w p0 4 = vR q2 := by assumption) (h4 : sh w q1 = some (.inr 4) := by assumption) : G Γ m_X6_pass Ret 0 0 30 [some (vR p0), some (vI a1), o2] [] w := by
  refine G_aload_n dX6_pass_30 rfl ?_
  refine G_getR dX6_pass_31 fl_RX6_38 h1 rfl h2 ?_
  refine G_aload_n dX6_pass_34 rfl ?_
  refine G_getR dX6_pass_35 fl_RX6_26 h1 rfl h3 ?_
  exact G_VV (as := [vR q2]) (st := []) n0_X4_push dX6_pass_38 ml_RX6_141 mc_X4_push rfl ⟨by decide, ⟨Nat.le_of_ble_eq_true rfl, Nat.le_of_ble_eq_true rfl⟩, Nat.le_of_ble_eq_true rfl⟩ h4 ⟨_, _, rfl⟩ c5 (fun u hq => kq u hq)
theorem k_X6_pass_27 {Γ : Gm} {Ret : Option Value → Wd → Prop} {o0 o1 o2 : Option Value} {w : Wd} (kr : Ret (some (vI (-2))) w) : G Γ m_X6_pass Ret 0 0 27 [o0, o1, o2] [] w := by
  refine G_bipush dX6_pass_27 (by decide +kernel) ?_
  exact G_reti dX6_pass_29 trivial ⟨rfl, Nat.le_of_ble_eq_true rfl⟩ kr
theorem k_X6_pass_41 {Γ : Gm} {Ret : Option Value → Wd → Prop} {a1 : Int} {p0 : Nat} {o2 : Option Value} {w : Wd} (km : G Γ m_X6_pass Ret 0 0 43 [some (vR p0), some (vI a1), some (vI 0)] [] w) : G Γ m_X6_pass Ret 0 0 41 [some (vR p0), some (vI a1), o2] [] w := by
  refine G_const dX6_pass_41 ?_
  refine G_istore_n dX6_pass_42 (by decide) rfl ?_
  exact km
theorem k_X6_pass_43 {Γ : Gm} {Ret : Option Value → Wd → Prop} {a1 a2 : Int} {p0 : Nat} {w : Wd} (kt : a1 ≤ a2 → G Γ m_X6_pass Ret 0 0 65 [some (vR p0), some (vI a1), some (vI a2)] [] w) (kf : ¬ (a1 ≤ a2) → G Γ m_X6_pass Ret 0 0 48 [some (vR p0), some (vI a1), some (vI a2)] [] w) (h1 : sm a2 := by omega) (h2 : sm a1 := by omega) : G Γ m_X6_pass Ret 0 0 43 [some (vR p0), some (vI a1), some (vI a2)] [] w := by
  refine G_iload_n dX6_pass_43 rfl ?_
  refine G_iload_n dX6_pass_44 rfl ?_
  exact G_icmp_ge dX6_pass_45 (by decide) h1 h2 kt kf
theorem k_X6_pass_65 {Γ : Gm} {Ret : Option Value → Wd → Prop} {p0 q1 : Nat} {o1 o2 : Option Value} {w : Wd} (kr : Ret (some (vI (wI w q1 7))) w) (h1 : sh w p0 = some (.inr 6) := by assumption) (h2 : wR w p0 4 = vR q1 := by assumption) (h3 : sh w q1 = some (.inr 0) := by assumption) : G Γ m_X6_pass Ret 0 0 65 [some (vR p0), o1, o2] [] w := by
  refine G_aload_n dX6_pass_65 rfl ?_
  refine G_getR dX6_pass_66 fl_RX6_26 h1 rfl h2 ?_
  refine G_getI dX6_pass_69 fl_RX6_163 h3 rfl ?_
  exact G_reti dX6_pass_72 trivial ⟨rfl, Nat.le_of_ble_eq_true rfl⟩ kr
theorem k_X6_pass_48 {Γ : Gm} {Ret : Option Value → Wd → Prop} {a1 a2 : Int} {p0 q1 q2 : Nat} {w : Wd} {Q : Wd → Prop} (c5 : SpV Γ m_X0_passMonth [vR q1, vR q2] w Q) (kq : ∀ u : Wd, Q u → G Γ m_X6_pass Ret 0 0 59 [some (vR p0), some (vI a1), some (vI a2)] [] u) (h1 : sh w p0 = some (.inr 6) := by assumption) (h2 : wR w p0 4 = vR q1 := by assumption) (h3 : wR w p0 2 = vR q2 := by assumption) (h4 : sh w q1 = some (.inr 0) := by assumption) : G Γ m_X6_pass Ret 0 0 48 [some (vR p0), some (vI a1), some (vI a2)] [] w := by
  refine G_aload_n dX6_pass_48 rfl ?_
  refine G_getR dX6_pass_49 fl_RX6_26 h1 rfl h2 ?_
  refine G_aload_n dX6_pass_52 rfl ?_
  refine G_getR dX6_pass_53 fl_RX6_16 h1 rfl h3 ?_
  exact G_VV (as := [vR q2]) (st := []) n0_X0_passMonth dX6_pass_56 ml_RX6_166 mc_X0_passMonth rfl ⟨by decide, ⟨Nat.le_of_ble_eq_true rfl, Nat.le_of_ble_eq_true rfl⟩, Nat.le_of_ble_eq_true rfl⟩ h4 ⟨_, _, rfl⟩ c5 (fun u hq => kq u hq)
theorem k_X6_pass_59 {Γ : Gm} {Ret : Option Value → Wd → Prop} {a1 a2 : Int} {p0 : Nat} {w : Wd} (km : G Γ m_X6_pass Ret 0 0 43 [some (vR p0), some (vI a1), some (vI (a2 + 1))] [] w) : G Γ m_X6_pass Ret 0 0 59 [some (vR p0), some (vI a1), some (vI a2)] [] w := by
  refine G_iinc dX6_pass_59 (by decide) rfl rfl ?_
  refine G_goto dX6_pass_62 (tgt := 43) (by decide) ?_
  exact km
theorem k_X6_undo_0 {Γ : Gm} {Ret : Option Value → Wd → Prop} {p0 q1 q2 : Nat} {w : Wd} {Q : Int → Wd → Prop} (c5 : SpI Γ m_X4_pop [vR q1, vR q2] w Q) (kq : ∀ (z : Int) (u : Wd), Q z u → G Γ m_X6_undo Ret 0 0 11 [some (vR p0)] [vI z] u) (h1 : sh w p0 = some (.inr 6) := by assumption) (h2 : wR w p0 6 = vR q1 := by assumption) (h3 : wR w p0 4 = vR q2 := by assumption) (h4 : sh w q1 = some (.inr 4) := by assumption) : G Γ m_X6_undo Ret 0 0 0 [some (vR p0)] [] w := by
  refine G_aload_n dX6_undo_0 rfl ?_
  refine G_getR dX6_undo_1 fl_RX6_38 h1 rfl h2 ?_
  refine G_aload_n dX6_undo_4 rfl ?_
  refine G_getR dX6_undo_5 fl_RX6_26 h1 rfl h3 ?_
  exact G_VI (as := [vR q2]) (st := []) n0_X4_pop dX6_undo_8 ml_RX6_170 mc_X4_pop rfl ⟨by decide, ⟨Nat.le_of_ble_eq_true rfl, Nat.le_of_ble_eq_true rfl⟩, Nat.le_of_ble_eq_true rfl⟩ h4 ⟨_, _, rfl⟩ c5 (fun z u hq => kq z u hq)
theorem k_X6_undo_11 {Γ : Gm} {Ret : Option Value → Wd → Prop} {s0 : Int} {p0 : Nat} {w : Wd} (kt : s0 = 0 → G Γ m_X6_undo Ret 0 0 24 [some (vR p0)] [] w) (kf : ¬ (s0 = 0) → G Γ m_X6_undo Ret 0 0 14 [some (vR p0)] [] w) (h1 : sm s0 := by omega) : G Γ m_X6_undo Ret 0 0 11 [some (vR p0)] [vI s0] w := by
  exact G_if_eq dX6_undo_11 (by decide) h1 kt kf
theorem k_X6_undo_24 {Γ : Gm} {Ret : Option Value → Wd → Prop} {o0 : Option Value} {w : Wd} (kr : Ret (some (vI (-2))) w) : G Γ m_X6_undo Ret 0 0 24 [o0] [] w := by
  refine G_bipush dX6_undo_24 (by decide +kernel) ?_
  exact G_reti dX6_undo_26 trivial ⟨rfl, Nat.le_of_ble_eq_true rfl⟩ kr
theorem k_X6_undo_14 {Γ : Gm} {Ret : Option Value → Wd → Prop} {p0 q1 : Nat} {w : Wd} (kr : Ret (some (vI (wI w q1 2))) w) (h1 : sh w p0 = some (.inr 6) := by assumption) (h2 : wR w p0 6 = vR q1 := by assumption) (h3 : sh w q1 = some (.inr 4) := by assumption) : G Γ m_X6_undo Ret 0 0 14 [some (vR p0)] [] w := by
  refine G_aload_n dX6_undo_14 rfl ?_
  refine G_getR dX6_undo_15 fl_RX6_38 h1 rfl h2 ?_
  refine G_getI dX6_undo_18 fl_RX6_174 h3 rfl ?_
  refine G_goto dX6_undo_21 (tgt := 26) (by decide) ?_
  exact G_reti dX6_undo_26 trivial ⟨rfl, Nat.le_of_ble_eq_true rfl⟩ kr
theorem k_X6_plan_0 {Γ : Gm} {Ret : Option Value → Wd → Prop} {a1 : Int} {p0 : Nat} {w : Wd} (kt : (-2) ≤ a1 → G Γ m_X6_plan Ret 0 0 8 [some (vR p0), some (vI a1)] [] w) (kf : ¬ ((-2) ≤ a1) → G Γ m_X6_plan Ret 0 0 6 [some (vR p0), some (vI a1)] [] w) (h1 : sm a1 := by omega) : G Γ m_X6_plan Ret 0 0 0 [some (vR p0), some (vI a1)] [] w := by
  refine G_iload_n dX6_plan_0 rfl ?_
  refine G_bipush dX6_plan_1 (by decide +kernel) ?_
  exact G_icmp_ge dX6_plan_3 (by decide) h1 (by decide) kt kf
theorem k_X6_plan_8 {Γ : Gm} {Ret : Option Value → Wd → Prop} {a1 : Int} {p0 q1 q2 q3 : Nat} {w : Wd} {Q : Wd → Prop} (c6 : SpV Γ m_X1_make [vR q1, vR q2, vR q3] w Q) (kq : ∀ u : Wd, Q u → G Γ m_X6_plan Ret 0 0 23 [some (vR p0), some (vI a1)] [] u) (h1 : sh w p0 = some (.inr 6) := by assumption) (h2 : wR w p0 9 = vR q1 := by assumption) (h3 : wR w p0 2 = vR q2 := by assumption) (h4 : wR w p0 4 = vR q3 := by assumption) (h5 : sh w q1 = some (.inr 1) := by assumption) : G Γ m_X6_plan Ret 0 0 8 [some (vR p0), some (vI a1)] [] w := by
  refine G_aload_n dX6_plan_8 rfl ?_
  refine G_getR dX6_plan_9 fl_RX6_55 h1 rfl h2 ?_
  refine G_aload_n dX6_plan_12 rfl ?_
  refine G_getR dX6_plan_13 fl_RX6_16 h1 rfl h3 ?_
  refine G_aload_n dX6_plan_16 rfl ?_
  refine G_getR dX6_plan_17 fl_RX6_26 h1 rfl h4 ?_
  exact G_VV (as := [vR q2, vR q3]) (st := []) n0_X1_make dX6_plan_20 ml_RX6_177 mc_X1_make rfl ⟨by decide, ⟨Nat.le_of_ble_eq_true rfl, Nat.le_of_ble_eq_true rfl⟩, Nat.le_of_ble_eq_true rfl⟩ h5 ⟨_, _, rfl⟩ c6 (fun u hq => kq u hq)
theorem k_X6_plan_6 {Γ : Gm} {Ret : Option Value → Wd → Prop} {o0 o1 : Option Value} {w : Wd} (kr : Ret (some (vI (-1))) w) : G Γ m_X6_plan Ret 0 0 6 [o0, o1] [] w := by
  refine G_const dX6_plan_6 ?_
  exact G_reti dX6_plan_7 trivial ⟨rfl, Nat.le_of_ble_eq_true rfl⟩ kr
theorem k_X6_plan_23 {Γ : Gm} {Ret : Option Value → Wd → Prop} {a1 : Int} {p0 q1 : Nat} {w : Wd} (kt : (wI w q1 5) ≠ 0 → G Γ m_X6_plan Ret 0 0 36 [some (vR p0), some (vI a1)] [] w) (kf : (wI w q1 5) = 0 → G Γ m_X6_plan Ret 0 0 33 [some (vR p0), some (vI a1)] [] w) (h1 : sh w p0 = some (.inr 6) := by assumption) (h2 : wR w p0 9 = vR q1 := by assumption) (h3 : sh w q1 = some (.inr 1) := by assumption) (h4 : sm (wI w q1 5) := by omega) : G Γ m_X6_plan Ret 0 0 23 [some (vR p0), some (vI a1)] [] w := by
  refine G_aload_n dX6_plan_23 rfl ?_
  refine G_getR dX6_plan_24 fl_RX6_55 h1 rfl h2 ?_
  refine G_getI dX6_plan_27 fl_RX6_181 h3 rfl ?_
  exact G_if_ne dX6_plan_30 (by decide) h4 kt kf
theorem k_X6_plan_36 {Γ : Gm} {Ret : Option Value → Wd → Prop} {a1 : Int} {p0 : Nat} {w : Wd} (k72 : a1 = (-2) → G Γ m_X6_plan Ret 0 0 72 [some (vR p0), some (vI a1)] [] w) (k64 : a1 = (-1) → G Γ m_X6_plan Ret 0 0 64 [some (vR p0), some (vI a1)] [] w) (kd : (a1 ≠ (-2) ∧ a1 ≠ (-1)) → G Γ m_X6_plan Ret 0 0 80 [some (vR p0), some (vI a1)] [] w) (h1 : sm a1 := by omega) : G Γ m_X6_plan Ret 0 0 36 [some (vR p0), some (vI a1)] [] w := by
  refine G_iload_n dX6_plan_36 rfl ?_
  by_cases hv0 : a1 = (-2)
  · exact G_lookup (off := 35) (tgt := 72) dX6_plan_37 h1 (by decide +kernel) (by rw [hv0]; rfl) (by decide) (k72 hv0)
  by_cases hv1 : a1 = (-1)
  · exact G_lookup (off := 27) (tgt := 64) dX6_plan_37 h1 (by decide +kernel) (by rw [hv1]; rfl) (by decide) (k64 hv1)
  exact G_lookup (off := 43) (tgt := 80) dX6_plan_37 h1 (by decide +kernel) (by simp [Op.lookupswitch.offset, Ne.symm hv0, Ne.symm hv1, hv0, hv1]) (by decide) (kd (by omega))
theorem k_X6_plan_33 {Γ : Gm} {Ret : Option Value → Wd → Prop} {o0 o1 : Option Value} {w : Wd} (kr : Ret (some (vI (-4))) w) : G Γ m_X6_plan Ret 0 0 33 [o0, o1] [] w := by
  refine G_bipush dX6_plan_33 (by decide +kernel) ?_
  exact G_reti dX6_plan_35 trivial ⟨rfl, Nat.le_of_ble_eq_true rfl⟩ kr
theorem k_X6_plan_72 {Γ : Gm} {Ret : Option Value → Wd → Prop} {p0 q1 : Nat} {o1 : Option Value} {w : Wd} (kr : Ret (some (vI (wI w q1 7))) w) (h1 : sh w p0 = some (.inr 6) := by assumption) (h2 : wR w p0 9 = vR q1 := by assumption) (h3 : sh w q1 = some (.inr 1) := by assumption) : G Γ m_X6_plan Ret 0 0 72 [some (vR p0), o1] [] w := by
  refine G_aload_n dX6_plan_72 rfl ?_
  refine G_getR dX6_plan_73 fl_RX6_55 h1 rfl h2 ?_
  refine G_getI dX6_plan_76 fl_RX6_188 h3 rfl ?_
  exact G_reti dX6_plan_79 trivial ⟨rfl, Nat.le_of_ble_eq_true rfl⟩ kr
theorem k_X6_plan_64 {Γ : Gm} {Ret : Option Value → Wd → Prop} {p0 q1 : Nat} {o1 : Option Value} {w : Wd} (kr : Ret (some (vI (wI w q1 6))) w) (h1 : sh w p0 = some (.inr 6) := by assumption) (h2 : wR w p0 9 = vR q1 := by assumption) (h3 : sh w q1 = some (.inr 1) := by assumption) : G Γ m_X6_plan Ret 0 0 64 [some (vR p0), o1] [] w := by
  refine G_aload_n dX6_plan_64 rfl ?_
  refine G_getR dX6_plan_65 fl_RX6_55 h1 rfl h2 ?_
  refine G_getI dX6_plan_68 fl_RX6_185 h3 rfl ?_
  exact G_reti dX6_plan_71 trivial ⟨rfl, Nat.le_of_ble_eq_true rfl⟩ kr
theorem k_X6_plan_80 {Γ : Gm} {Ret : Option Value → Wd → Prop} {a1 z2 : Int} {p0 q1 : Nat} {w : Wd} (c4 : SpP Γ m_X1_breadthOf [vR q1, vI a1] w z2) (kr : Ret (some (vI z2)) w) (h1 : sh w p0 = some (.inr 6) := by assumption) (h2 : wR w p0 9 = vR q1 := by assumption) (h3 : sh w q1 = some (.inr 1) := by assumption) : G Γ m_X6_plan Ret 0 0 80 [some (vR p0), some (vI a1)] [] w := by
  refine G_aload_n dX6_plan_80 rfl ?_
  refine G_getR dX6_plan_81 fl_RX6_55 h1 rfl h2 ?_
  refine G_iload_n dX6_plan_84 rfl ?_
  refine G_VP (as := [vI a1]) (st := []) n0_X1_breadthOf dX6_plan_85 ml_RX6_191 mc_X1_breadthOf rfl ⟨by decide, ⟨Nat.le_of_ble_eq_true rfl, Nat.le_of_ble_eq_true rfl⟩, Nat.le_of_ble_eq_true rfl⟩ h3 ⟨_, _, rfl⟩ c4 ?_
  exact G_reti dX6_plan_88 trivial ⟨rfl, Nat.le_of_ble_eq_true rfl⟩ kr
theorem k_X6_order_0 {Γ : Gm} {Ret : Option Value → Wd → Prop} {a1 z1 : Int} {p0 : Nat} {w : Wd} (c1 : SpP Γ m_X6_within [vI a1, vI (-1), vI 3] w z1) (kt : z1 ≠ 0 → G Γ m_X6_order Ret 0 0 11 [some (vR p0), some (vI a1)] [] w) (kf : z1 = 0 → G Γ m_X6_order Ret 0 0 9 [some (vR p0), some (vI a1)] [] w) (h2 : sm z1 := by omega) : G Γ m_X6_order Ret 0 0 0 [some (vR p0), some (vI a1)] [] w := by
  refine G_iload_n dX6_order_0 rfl ?_
  refine G_const dX6_order_1 ?_
  refine G_const dX6_order_2 ?_
  refine G_SP (as := [vI a1, vI (-1), vI 3]) (st := []) n0_X6_within dX6_order_3 ml_RX6_89 mc_X6_within rfl ⟨by decide, ⟨Nat.le_of_ble_eq_true rfl, Nat.le_of_ble_eq_true rfl⟩, Nat.le_of_ble_eq_true rfl⟩ c1 ?_
  exact G_if_ne dX6_order_6 (by decide) h2 kt kf
theorem k_X6_order_11 {Γ : Gm} {Ret : Option Value → Wd → Prop} {a1 : Int} {p0 q1 q2 q3 q4 : Nat} {w : Wd} {Q : Wd → Prop} (c7 : SpV Γ m_X2_make [vR q1, vR q2, vR q3, vR q4] w Q) (kq : ∀ u : Wd, Q u → G Γ m_X6_order Ret 0 0 30 [some (vR p0), some (vI a1)] [] u) (h1 : sh w p0 = some (.inr 6) := by assumption) (h2 : wR w p0 10 = vR q1 := by assumption) (h3 : wR w p0 2 = vR q2 := by assumption) (h4 : wR w p0 4 = vR q3 := by assumption) (h5 : wR w p0 5 = vR q4 := by assumption) (h6 : sh w q1 = some (.inr 2) := by assumption) : G Γ m_X6_order Ret 0 0 11 [some (vR p0), some (vI a1)] [] w := by
  refine G_aload_n dX6_order_11 rfl ?_
  refine G_getR dX6_order_12 fl_RX6_62 h1 rfl h2 ?_
  refine G_aload_n dX6_order_15 rfl ?_
  refine G_getR dX6_order_16 fl_RX6_16 h1 rfl h3 ?_
  refine G_aload_n dX6_order_19 rfl ?_
  refine G_getR dX6_order_20 fl_RX6_26 h1 rfl h4 ?_
  refine G_aload_n dX6_order_23 rfl ?_
  refine G_getR dX6_order_24 fl_RX6_30 h1 rfl h5 ?_
  exact G_VV (as := [vR q2, vR q3, vR q4]) (st := []) n0_X2_make dX6_order_27 ml_RX6_194 mc_X2_make rfl ⟨by decide, ⟨Nat.le_of_ble_eq_true rfl, Nat.le_of_ble_eq_true rfl⟩, Nat.le_of_ble_eq_true rfl⟩ h6 ⟨_, _, rfl⟩ c7 (fun u hq => kq u hq)
theorem k_X6_order_9 {Γ : Gm} {Ret : Option Value → Wd → Prop} {o0 o1 : Option Value} {w : Wd} (kr : Ret (some (vI (-1))) w) : G Γ m_X6_order Ret 0 0 9 [o0, o1] [] w := by
  refine G_const dX6_order_9 ?_
  exact G_reti dX6_order_10 trivial ⟨rfl, Nat.le_of_ble_eq_true rfl⟩ kr
theorem k_X6_order_30 {Γ : Gm} {Ret : Option Value → Wd → Prop} {a1 : Int} {p0 : Nat} {w : Wd} (kt : a1 ≠ (-1) → G Γ m_X6_order Ret 0 0 45 [some (vR p0), some (vI a1)] [] w) (kf : a1 = (-1) → G Γ m_X6_order Ret 0 0 35 [some (vR p0), some (vI a1)] [] w) (h1 : sm a1 := by omega) : G Γ m_X6_order Ret 0 0 30 [some (vR p0), some (vI a1)] [] w := by
  refine G_iload_n dX6_order_30 rfl ?_
  refine G_const dX6_order_31 ?_
  exact G_icmp_ne dX6_order_32 (by decide) h1 (by decide) kt kf
theorem k_X6_order_45 {Γ : Gm} {Ret : Option Value → Wd → Prop} {a1 z2 : Int} {p0 q1 : Nat} {w : Wd} (c4 : SpP Γ m_X2_wallAt [vR q1, vI a1] w z2) (kr : Ret (some (vI z2)) w) (h1 : sh w p0 = some (.inr 6) := by assumption) (h2 : wR w p0 10 = vR q1 := by assumption) (h3 : sh w q1 = some (.inr 2) := by assumption) : G Γ m_X6_order Ret 0 0 45 [some (vR p0), some (vI a1)] [] w := by
  refine G_aload_n dX6_order_45 rfl ?_
  refine G_getR dX6_order_46 fl_RX6_62 h1 rfl h2 ?_
  refine G_iload_n dX6_order_49 rfl ?_
  refine G_VP (as := [vI a1]) (st := []) n0_X2_wallAt dX6_order_50 ml_RX6_200 mc_X2_wallAt rfl ⟨by decide, ⟨Nat.le_of_ble_eq_true rfl, Nat.le_of_ble_eq_true rfl⟩, Nat.le_of_ble_eq_true rfl⟩ h3 ⟨_, _, rfl⟩ c4 ?_
  exact G_reti dX6_order_53 trivial ⟨rfl, Nat.le_of_ble_eq_true rfl⟩ kr
theorem k_X6_order_35 {Γ : Gm} {Ret : Option Value → Wd → Prop} {p0 q1 : Nat} {o1 : Option Value} {w : Wd} (kr : Ret (some (vI (wI w q1 2))) w) (h1 : sh w p0 = some (.inr 6) := by assumption) (h2 : wR w p0 10 = vR q1 := by assumption) (h3 : sh w q1 = some (.inr 2) := by assumption) : G Γ m_X6_order Ret 0 0 35 [some (vR p0), o1] [] w := by
  refine G_aload_n dX6_order_35 rfl ?_
  refine G_getR dX6_order_36 fl_RX6_62 h1 rfl h2 ?_
  refine G_getI dX6_order_39 fl_RX6_197 h3 rfl ?_
  refine G_goto dX6_order_42 (tgt := 53) (by decide) ?_
  exact G_reti dX6_order_53 trivial ⟨rfl, Nat.le_of_ble_eq_true rfl⟩ kr
theorem k_X6_kickFor_0 {Γ : Gm} {Ret : Option Value → Wd → Prop} {a1 a2 z1 : Int} {p0 : Nat} {w : Wd} (c1 : SpP Γ m_X6_isWall [vI a1] w z1) (kt : z1 = 0 → G Γ m_X6_kickFor Ret 0 0 17 [some (vR p0), some (vI a1), some (vI a2)] [] w) (kf : ¬ (z1 = 0) → G Γ m_X6_kickFor Ret 0 0 7 [some (vR p0), some (vI a1), some (vI a2)] [] w) (h2 : sm z1 := by omega) : G Γ m_X6_kickFor Ret 0 0 0 [some (vR p0), some (vI a1), some (vI a2)] [] w := by
  refine G_iload_n dX6_kickFor_0 rfl ?_
  refine G_SP (as := [vI a1]) (st := []) n0_X6_isWall dX6_kickFor_1 ml_RX6_119 mc_X6_isWall rfl ⟨by decide, ⟨Nat.le_of_ble_eq_true rfl, Nat.le_of_ble_eq_true rfl⟩, Nat.le_of_ble_eq_true rfl⟩ c1 ?_
  exact G_if_eq dX6_kickFor_4 (by decide) h2 kt kf
theorem k_X6_kickFor_17 {Γ : Gm} {Ret : Option Value → Wd → Prop} {o0 o1 o2 : Option Value} {w : Wd} (kr : Ret (some (vI (-1))) w) : G Γ m_X6_kickFor Ret 0 0 17 [o0, o1, o2] [] w := by
  refine G_const dX6_kickFor_17 ?_
  exact G_reti dX6_kickFor_18 trivial ⟨rfl, Nat.le_of_ble_eq_true rfl⟩ kr
theorem k_X6_kickFor_7 {Γ : Gm} {Ret : Option Value → Wd → Prop} {a1 a2 z1 : Int} {p0 : Nat} {w : Wd} (c1 : SpP Γ m_X6_within [vI a2, vI 0, vI 30] w z1) (kt : z1 ≠ 0 → G Γ m_X6_kickFor Ret 0 0 19 [some (vR p0), some (vI a1), some (vI a2)] [] w) (kf : z1 = 0 → G Γ m_X6_kickFor Ret 0 0 17 [some (vR p0), some (vI a1), some (vI a2)] [] w) (h2 : sm z1 := by omega) : G Γ m_X6_kickFor Ret 0 0 7 [some (vR p0), some (vI a1), some (vI a2)] [] w := by
  refine G_iload_n dX6_kickFor_7 rfl ?_
  refine G_const dX6_kickFor_8 ?_
  refine G_bipush dX6_kickFor_9 (by decide +kernel) ?_
  refine G_SP (as := [vI a2, vI 0, vI 30]) (st := []) n0_X6_within dX6_kickFor_11 ml_RX6_89 mc_X6_within rfl ⟨by decide, ⟨Nat.le_of_ble_eq_true rfl, Nat.le_of_ble_eq_true rfl⟩, Nat.le_of_ble_eq_true rfl⟩ c1 ?_
  exact G_if_ne dX6_kickFor_14 (by decide) h2 kt kf
theorem k_X6_kickFor_19 {Γ : Gm} {Ret : Option Value → Wd → Prop} {a1 a2 z2 : Int} {p0 q1 : Nat} {w : Wd} (c4 : SpP Γ m_X0_isFree [vR q1, vI a1] w z2) (kt : z2 = 0 → G Γ m_X6_kickFor Ret 0 0 46 [some (vR p0), some (vI a1), some (vI a2)] [] w) (kf : ¬ (z2 = 0) → G Γ m_X6_kickFor Ret 0 0 30 [some (vR p0), some (vI a1), some (vI a2)] [] w) (h1 : sh w p0 = some (.inr 6) := by assumption) (h2 : wR w p0 4 = vR q1 := by assumption) (h3 : sh w q1 = some (.inr 0) := by assumption) (h5 : sm z2 := by omega) : G Γ m_X6_kickFor Ret 0 0 19 [some (vR p0), some (vI a1), some (vI a2)] [] w := by
  refine G_aload_n dX6_kickFor_19 rfl ?_
  refine G_getR dX6_kickFor_20 fl_RX6_26 h1 rfl h2 ?_
  refine G_iload_n dX6_kickFor_23 rfl ?_
  refine G_VP (as := [vI a1]) (st := []) n0_X0_isFree dX6_kickFor_24 ml_RX6_153 mc_X0_isFree rfl ⟨by decide, ⟨Nat.le_of_ble_eq_true rfl, Nat.le_of_ble_eq_true rfl⟩, Nat.le_of_ble_eq_true rfl⟩ h3 ⟨_, _, rfl⟩ c4 ?_
  exact G_if_eq dX6_kickFor_27 (by decide) h5 kt kf
theorem k_X6_kickFor_46 {Γ : Gm} {Ret : Option Value → Wd → Prop} {o0 o1 o2 : Option Value} {w : Wd} (kr : Ret (some (vI (-4))) w) : G Γ m_X6_kickFor Ret 0 0 46 [o0, o1, o2] [] w := by
  refine G_bipush dX6_kickFor_46 (by decide +kernel) ?_
  exact G_reti dX6_kickFor_48 trivial ⟨rfl, Nat.le_of_ble_eq_true rfl⟩ kr
theorem k_X6_kickFor_30 {Γ : Gm} {Ret : Option Value → Wd → Prop} {a1 a2 z3 : Int} {p0 q1 q2 : Nat} {w : Wd} (c5 : SpP Γ m_X0_leastKick [vR q1, vR q2, vI a1, vI a2] w z3) (kr : Ret (some (vI z3)) w) (h1 : sh w p0 = some (.inr 6) := by assumption) (h2 : wR w p0 4 = vR q1 := by assumption) (h3 : wR w p0 2 = vR q2 := by assumption) (h4 : sh w q1 = some (.inr 0) := by assumption) : G Γ m_X6_kickFor Ret 0 0 30 [some (vR p0), some (vI a1), some (vI a2)] [] w := by
  refine G_aload_n dX6_kickFor_30 rfl ?_
  refine G_getR dX6_kickFor_31 fl_RX6_26 h1 rfl h2 ?_
  refine G_aload_n dX6_kickFor_34 rfl ?_
  refine G_getR dX6_kickFor_35 fl_RX6_16 h1 rfl h3 ?_
  refine G_iload_n dX6_kickFor_38 rfl ?_
  refine G_iload_n dX6_kickFor_39 rfl ?_
  refine G_VP (as := [vR q2, vI a1, vI a2]) (st := []) n0_X0_leastKick dX6_kickFor_40 ml_RX6_203 mc_X0_leastKick rfl ⟨by decide, ⟨Nat.le_of_ble_eq_true rfl, Nat.le_of_ble_eq_true rfl⟩, Nat.le_of_ble_eq_true rfl⟩ h4 ⟨_, _, rfl⟩ c5 ?_
  refine G_goto dX6_kickFor_43 (tgt := 48) (by decide) ?_
  exact G_reti dX6_kickFor_48 trivial ⟨rfl, Nat.le_of_ble_eq_true rfl⟩ kr
theorem k_X6_waves_0 {Γ : Gm} {Ret : Option Value → Wd → Prop} {p0 : Nat} {w : Wd} (km : G Γ m_X6_waves Ret 0 0 5 [some (vR p0), some (vI 61), some (vI 0)] [] w) : G Γ m_X6_waves Ret 0 0 0 [some (vR p0), none, none] [] w := by
  refine G_bipush dX6_waves_0 (by decide +kernel) ?_
  refine G_istore_n dX6_waves_2 (by decide) rfl ?_
  refine G_const dX6_waves_3 ?_
  refine G_istore_n dX6_waves_4 (by decide) rfl ?_
  exact km
theorem k_X6_waves_5 {Γ : Gm} {Ret : Option Value → Wd → Prop} {a1 a2 : Int} {p0 : Nat} {w : Wd} (kt : 4 ≤ a2 → G Γ m_X6_waves Ret 0 0 44 [some (vR p0), some (vI a1), some (vI a2)] [] w) (kf : ¬ (4 ≤ a2) → G Γ m_X6_waves Ret 0 0 10 [some (vR p0), some (vI a1), some (vI a2)] [] w) (h1 : sm a2 := by omega) : G Γ m_X6_waves Ret 0 0 5 [some (vR p0), some (vI a1), some (vI a2)] [] w := by
  refine G_iload_n dX6_waves_5 rfl ?_
  refine G_const dX6_waves_6 ?_
  exact G_icmp_ge dX6_waves_7 (by decide) h1 (by decide) kt kf
theorem k_X6_waves_44 {Γ : Gm} {Ret : Option Value → Wd → Prop} {a1 : Int} {o0 o2 : Option Value} {w : Wd} (kt : a1 ≤ 60 → G Γ m_X6_waves Ret 0 0 55 [o0, some (vI a1), o2] [] w) (kf : ¬ (a1 ≤ 60) → G Γ m_X6_waves Ret 0 0 50 [o0, some (vI a1), o2] [] w) (h1 : sm a1 := by omega) : G Γ m_X6_waves Ret 0 0 44 [o0, some (vI a1), o2] [] w := by
  refine G_iload_n dX6_waves_44 rfl ?_
  refine G_bipush dX6_waves_45 (by decide +kernel) ?_
  exact G_icmp_le dX6_waves_47 (by decide) h1 (by decide) kt kf
theorem k_X6_waves_10 {Γ : Gm} {Ret : Option Value → Wd → Prop} {a1 a2 z2 : Int} {p0 q1 : Nat} {w : Wd} (c4 : SpP Γ m_X0_isHooked [vR q1, vI a2] w z2) (kt : z2 = 0 → G Γ m_X6_waves Ret 0 0 38 [some (vR p0), some (vI a1), some (vI a2)] [] w) (kf : ¬ (z2 = 0) → G Γ m_X6_waves Ret 0 0 21 [some (vR p0), some (vI a1), some (vI a2)] [] w) (h1 : sh w p0 = some (.inr 6) := by assumption) (h2 : wR w p0 4 = vR q1 := by assumption) (h3 : sh w q1 = some (.inr 0) := by assumption) (h5 : sm z2 := by omega) : G Γ m_X6_waves Ret 0 0 10 [some (vR p0), some (vI a1), some (vI a2)] [] w := by
  refine G_aload_n dX6_waves_10 rfl ?_
  refine G_getR dX6_waves_11 fl_RX6_26 h1 rfl h2 ?_
  refine G_iload_n dX6_waves_14 rfl ?_
  refine G_VP (as := [vI a2]) (st := []) n0_X0_isHooked dX6_waves_15 ml_RX6_125 mc_X0_isHooked rfl ⟨by decide, ⟨Nat.le_of_ble_eq_true rfl, Nat.le_of_ble_eq_true rfl⟩, Nat.le_of_ble_eq_true rfl⟩ h3 ⟨_, _, rfl⟩ c4 ?_
  exact G_if_eq dX6_waves_18 (by decide) h5 kt kf
theorem k_X6_waves_55 {Γ : Gm} {Ret : Option Value → Wd → Prop} {a1 : Int} {o0 o2 : Option Value} {w : Wd} (kr : Ret (some (vI a1)) w) : G Γ m_X6_waves Ret 0 0 55 [o0, some (vI a1), o2] [] w := by
  refine G_iload_n dX6_waves_55 rfl ?_
  exact G_reti dX6_waves_56 trivial ⟨rfl, Nat.le_of_ble_eq_true rfl⟩ kr
theorem k_X6_waves_50 {Γ : Gm} {Ret : Option Value → Wd → Prop} {o0 o1 o2 : Option Value} {w : Wd} (kr : Ret (some (vI (-4))) w) : G Γ m_X6_waves Ret 0 0 50 [o0, o1, o2] [] w := by
  refine G_bipush dX6_waves_50 (by decide +kernel) ?_
  refine G_goto dX6_waves_52 (tgt := 56) (by decide) ?_
  exact G_reti dX6_waves_56 trivial ⟨rfl, Nat.le_of_ble_eq_true rfl⟩ kr
theorem k_X6_waves_38 {Γ : Gm} {Ret : Option Value → Wd → Prop} {a1 a2 : Int} {p0 : Nat} {w : Wd} (km : G Γ m_X6_waves Ret 0 0 5 [some (vR p0), some (vI a1), some (vI (a2 + 1))] [] w) : G Γ m_X6_waves Ret 0 0 38 [some (vR p0), some (vI a1), some (vI a2)] [] w := by
  refine G_iinc dX6_waves_38 (by decide) rfl rfl ?_
  refine G_goto dX6_waves_41 (tgt := 5) (by decide) ?_
  exact km
theorem k_X6_waves_21 {Γ : Gm} {Ret : Option Value → Wd → Prop} {a1 a2 z3 : Int} {p0 q1 q2 : Nat} {w : Wd} (c5 : SpP Γ m_X0_monthsToWave [vR q1, vR q2, vI a2] w z3) (km : G Γ m_X6_waves Ret 0 0 5 [some (vR p0), some (vI (min a1 z3)), some (vI (a2 + 1))] [] w) (h1 : sh w p0 = some (.inr 6) := by assumption) (h2 : wR w p0 4 = vR q1 := by assumption) (h3 : wR w p0 2 = vR q2 := by assumption) (h4 : sh w q1 = some (.inr 0) := by assumption) (h6 : sm a1 := by omega) (h7 : sm z3 := by omega) : G Γ m_X6_waves Ret 0 0 21 [some (vR p0), some (vI a1), some (vI a2)] [] w := by
  refine G_iload_n dX6_waves_21 rfl ?_
  refine G_aload_n dX6_waves_22 rfl ?_
  refine G_getR dX6_waves_23 fl_RX6_26 h1 rfl h2 ?_
  refine G_aload_n dX6_waves_26 rfl ?_
  refine G_getR dX6_waves_27 fl_RX6_16 h1 rfl h3 ?_
  refine G_iload_n dX6_waves_30 rfl ?_
  refine G_VP (as := [vR q2, vI a2]) (st := [vI a1]) n0_X0_monthsToWave dX6_waves_31 ml_RX6_206 mc_X0_monthsToWave rfl ⟨by decide, ⟨Nat.le_of_ble_eq_true rfl, Nat.le_of_ble_eq_true rfl⟩, Nat.le_of_ble_eq_true rfl⟩ h4 ⟨_, _, rfl⟩ c5 ?_
  refine G_mmin dX6_waves_34 tb_645 tb_509 tb_44 tb_510 h6 h7 ⟨Nat.le_of_ble_eq_true rfl, Nat.le_of_ble_eq_true rfl⟩ ⟨Nat.le_of_ble_eq_true rfl, Nat.le_of_ble_eq_true rfl⟩ ?_
  refine G_istore_n dX6_waves_37 (by decide) rfl ?_
  refine G_iinc dX6_waves_38 (by decide) rfl rfl ?_
  refine G_goto dX6_waves_41 (tgt := 5) (by decide) ?_
  exact km
theorem k_X6_longest_0 {Γ : Gm} {Ret : Option Value → Wd → Prop} {p0 : Nat} {w : Wd} (km : G Γ m_X6_longest Ret 0 0 7 [some (vR p0), some (vI (-4)), some (vI (-1)), some (vI 0)] [] w) : G Γ m_X6_longest Ret 0 0 0 [some (vR p0), none, none, none] [] w := by
  refine G_bipush dX6_longest_0 (by decide +kernel) ?_
  refine G_istore_n dX6_longest_2 (by decide) rfl ?_
  refine G_const dX6_longest_3 ?_
  refine G_istore_n dX6_longest_4 (by decide) rfl ?_
  refine G_const dX6_longest_5 ?_
  refine G_istore_n dX6_longest_6 (by decide) rfl ?_
  exact km
theorem k_X6_longest_7 {Γ : Gm} {Ret : Option Value → Wd → Prop} {a1 a2 a3 : Int} {p0 : Nat} {w : Wd} (kt : 4 ≤ a3 → G Γ m_X6_longest Ret 0 0 60 [some (vR p0), some (vI a1), some (vI a2), some (vI a3)] [] w) (kf : ¬ (4 ≤ a3) → G Γ m_X6_longest Ret 0 0 12 [some (vR p0), some (vI a1), some (vI a2), some (vI a3)] [] w) (h1 : sm a3 := by omega) : G Γ m_X6_longest Ret 0 0 7 [some (vR p0), some (vI a1), some (vI a2), some (vI a3)] [] w := by
  refine G_iload_n dX6_longest_7 rfl ?_
  refine G_const dX6_longest_8 ?_
  exact G_icmp_ge dX6_longest_9 (by decide) h1 (by decide) kt kf
theorem k_X6_longest_60 {Γ : Gm} {Ret : Option Value → Wd → Prop} {a1 : Int} {o0 o2 o3 : Option Value} {w : Wd} (kr : Ret (some (vI a1)) w) : G Γ m_X6_longest Ret 0 0 60 [o0, some (vI a1), o2, o3] [] w := by
  refine G_iload_n dX6_longest_60 rfl ?_
  exact G_reti dX6_longest_61 trivial ⟨rfl, Nat.le_of_ble_eq_true rfl⟩ kr
theorem k_X6_longest_12 {Γ : Gm} {Ret : Option Value → Wd → Prop} {a1 a2 a3 z2 : Int} {p0 q1 : Nat} {w : Wd} (c4 : SpP Γ m_X0_isHooked [vR q1, vI a3] w z2) (kt : z2 = 0 → G Γ m_X6_longest Ret 0 0 54 [some (vR p0), some (vI a1), some (vI a2), some (vI a3)] [] w) (kf : ¬ (z2 = 0) → G Γ m_X6_longest Ret 0 0 23 [some (vR p0), some (vI a1), some (vI a2), some (vI a3)] [] w) (h1 : sh w p0 = some (.inr 6) := by assumption) (h2 : wR w p0 4 = vR q1 := by assumption) (h3 : sh w q1 = some (.inr 0) := by assumption) (h5 : sm z2 := by omega) : G Γ m_X6_longest Ret 0 0 12 [some (vR p0), some (vI a1), some (vI a2), some (vI a3)] [] w := by
  refine G_aload_n dX6_longest_12 rfl ?_
  refine G_getR dX6_longest_13 fl_RX6_26 h1 rfl h2 ?_
  refine G_iload_n dX6_longest_16 rfl ?_
  refine G_VP (as := [vI a3]) (st := []) n0_X0_isHooked dX6_longest_17 ml_RX6_125 mc_X0_isHooked rfl ⟨by decide, ⟨Nat.le_of_ble_eq_true rfl, Nat.le_of_ble_eq_true rfl⟩, Nat.le_of_ble_eq_true rfl⟩ h3 ⟨_, _, rfl⟩ c4 ?_
  exact G_if_eq dX6_longest_20 (by decide) h5 kt kf
theorem k_X6_longest_54 {Γ : Gm} {Ret : Option Value → Wd → Prop} {a1 a2 a3 : Int} {p0 : Nat} {w : Wd} (km : G Γ m_X6_longest Ret 0 0 7 [some (vR p0), some (vI a1), some (vI a2), some (vI (a3 + 1))] [] w) : G Γ m_X6_longest Ret 0 0 54 [some (vR p0), some (vI a1), some (vI a2), some (vI a3)] [] w := by
  refine G_iinc dX6_longest_54 (by decide) rfl rfl ?_
  refine G_goto dX6_longest_57 (tgt := 7) (by decide) ?_
  exact km
theorem k_X6_longest_23 {Γ : Gm} {Ret : Option Value → Wd → Prop} {a1 a2 a3 z3 : Int} {p0 q1 q2 : Nat} {w : Wd} (c5 : SpP Γ m_X0_monthsToWave [vR q1, vR q2, vI a3] w z3) (kt : z3 ≤ a2 → G Γ m_X6_longest Ret 0 0 54 [some (vR p0), some (vI a1), some (vI a2), some (vI a3)] [] w) (kf : ¬ (z3 ≤ a2) → G Γ m_X6_longest Ret 0 0 39 [some (vR p0), some (vI a1), some (vI a2), some (vI a3)] [] w) (h1 : sh w p0 = some (.inr 6) := by assumption) (h2 : wR w p0 4 = vR q1 := by assumption) (h3 : wR w p0 2 = vR q2 := by assumption) (h4 : sh w q1 = some (.inr 0) := by assumption) (h6 : sm z3 := by omega) (h7 : sm a2 := by omega) : G Γ m_X6_longest Ret 0 0 23 [some (vR p0), some (vI a1), some (vI a2), some (vI a3)] [] w := by
  refine G_aload_n dX6_longest_23 rfl ?_
  refine G_getR dX6_longest_24 fl_RX6_26 h1 rfl h2 ?_
  refine G_aload_n dX6_longest_27 rfl ?_
  refine G_getR dX6_longest_28 fl_RX6_16 h1 rfl h3 ?_
  refine G_iload_n dX6_longest_31 rfl ?_
  refine G_VP (as := [vR q2, vI a3]) (st := []) n0_X0_monthsToWave dX6_longest_32 ml_RX6_206 mc_X0_monthsToWave rfl ⟨by decide, ⟨Nat.le_of_ble_eq_true rfl, Nat.le_of_ble_eq_true rfl⟩, Nat.le_of_ble_eq_true rfl⟩ h4 ⟨_, _, rfl⟩ c5 ?_
  refine G_iload_n dX6_longest_35 rfl ?_
  exact G_icmp_le dX6_longest_36 (by decide) h6 h7 kt kf
theorem k_X6_longest_39 {Γ : Gm} {Ret : Option Value → Wd → Prop} {a3 z3 : Int} {p0 q1 q2 : Nat} {o1 o2 : Option Value} {w : Wd} (c5 : SpP Γ m_X0_monthsToWave [vR q1, vR q2, vI a3] w z3) (km : G Γ m_X6_longest Ret 0 0 7 [some (vR p0), some (vI a3), some (vI z3), some (vI (a3 + 1))] [] w) (h1 : sh w p0 = some (.inr 6) := by assumption) (h2 : wR w p0 4 = vR q1 := by assumption) (h3 : wR w p0 2 = vR q2 := by assumption) (h4 : sh w q1 = some (.inr 0) := by assumption) : G Γ m_X6_longest Ret 0 0 39 [some (vR p0), o1, o2, some (vI a3)] [] w := by
  refine G_iload_n dX6_longest_39 rfl ?_
  refine G_istore_n dX6_longest_40 (by decide) rfl ?_
  refine G_aload_n dX6_longest_41 rfl ?_
  refine G_getR dX6_longest_42 fl_RX6_26 h1 rfl h2 ?_
  refine G_aload_n dX6_longest_45 rfl ?_
  refine G_getR dX6_longest_46 fl_RX6_16 h1 rfl h3 ?_
  refine G_iload_n dX6_longest_49 rfl ?_
  refine G_VP (as := [vR q2, vI a3]) (st := []) n0_X0_monthsToWave dX6_longest_50 ml_RX6_206 mc_X0_monthsToWave rfl ⟨by decide, ⟨Nat.le_of_ble_eq_true rfl, Nat.le_of_ble_eq_true rfl⟩, Nat.le_of_ble_eq_true rfl⟩ h4 ⟨_, _, rfl⟩ c5 ?_
  refine G_istore_n dX6_longest_53 (by decide) rfl ?_
  refine G_iinc dX6_longest_54 (by decide) rfl rfl ?_
  refine G_goto dX6_longest_57 (tgt := 7) (by decide) ?_
  exact km
theorem k_X6_seen_0 {Γ : Gm} {Ret : Option Value → Wd → Prop} {a1 a2 z1 : Int} {p0 : Nat} {w : Wd} (c1 : SpP Γ m_X6_within [vI a1, vI 0, vI 20] w z1) (kt : z1 = 0 → G Γ m_X6_seen Ret 0 0 20 [some (vR p0), some (vI a1), some (vI a2)] [] w) (kf : ¬ (z1 = 0) → G Γ m_X6_seen Ret 0 0 10 [some (vR p0), some (vI a1), some (vI a2)] [] w) (h2 : sm z1 := by omega) : G Γ m_X6_seen Ret 0 0 0 [some (vR p0), some (vI a1), some (vI a2)] [] w := by
  refine G_iload_n dX6_seen_0 rfl ?_
  refine G_const dX6_seen_1 ?_
  refine G_bipush dX6_seen_2 (by decide +kernel) ?_
  refine G_SP (as := [vI a1, vI 0, vI 20]) (st := []) n0_X6_within dX6_seen_4 ml_RX6_89 mc_X6_within rfl ⟨by decide, ⟨Nat.le_of_ble_eq_true rfl, Nat.le_of_ble_eq_true rfl⟩, Nat.le_of_ble_eq_true rfl⟩ c1 ?_
  exact G_if_eq dX6_seen_7 (by decide) h2 kt kf
theorem k_X6_seen_20 {Γ : Gm} {Ret : Option Value → Wd → Prop} {o0 o1 o2 : Option Value} {w : Wd} (kr : Ret (some (vI (-1))) w) : G Γ m_X6_seen Ret 0 0 20 [o0, o1, o2] [] w := by
  refine G_const dX6_seen_20 ?_
  exact G_reti dX6_seen_21 trivial ⟨rfl, Nat.le_of_ble_eq_true rfl⟩ kr
theorem k_X6_seen_10 {Γ : Gm} {Ret : Option Value → Wd → Prop} {a1 a2 z1 : Int} {p0 : Nat} {w : Wd} (c1 : SpP Γ m_X6_within [vI a2, vI 0, vI 40] w z1) (kt : z1 ≠ 0 → G Γ m_X6_seen Ret 0 0 22 [some (vR p0), some (vI a1), some (vI a2)] [] w) (kf : z1 = 0 → G Γ m_X6_seen Ret 0 0 20 [some (vR p0), some (vI a1), some (vI a2)] [] w) (h2 : sm z1 := by omega) : G Γ m_X6_seen Ret 0 0 10 [some (vR p0), some (vI a1), some (vI a2)] [] w := by
  refine G_iload_n dX6_seen_10 rfl ?_
  refine G_const dX6_seen_11 ?_
  refine G_bipush dX6_seen_12 (by decide +kernel) ?_
  refine G_SP (as := [vI a2, vI 0, vI 40]) (st := []) n0_X6_within dX6_seen_14 ml_RX6_89 mc_X6_within rfl ⟨by decide, ⟨Nat.le_of_ble_eq_true rfl, Nat.le_of_ble_eq_true rfl⟩, Nat.le_of_ble_eq_true rfl⟩ c1 ?_
  exact G_if_ne dX6_seen_17 (by decide) h2 kt kf
theorem k_X6_seen_22 {Γ : Gm} {Ret : Option Value → Wd → Prop} {a1 a2 : Int} {p0 q1 : Nat} {w : Wd} {Q : Int → Wd → Prop} (c4 : SpI Γ m_X5_add [vR q1, vI a1, vI a2] w Q) (kq : ∀ (z : Int) (u : Wd), Q z u → G Γ m_X6_seen Ret 0 0 31 [some (vR p0), some (vI a1), some (vI a2)] [vI z] u) (h1 : sh w p0 = some (.inr 6) := by assumption) (h2 : wR w p0 8 = vR q1 := by assumption) (h3 : sh w q1 = some (.inr 5) := by assumption) : G Γ m_X6_seen Ret 0 0 22 [some (vR p0), some (vI a1), some (vI a2)] [] w := by
  refine G_aload_n dX6_seen_22 rfl ?_
  refine G_getR dX6_seen_23 fl_RX6_48 h1 rfl h2 ?_
  refine G_iload_n dX6_seen_26 rfl ?_
  refine G_iload_n dX6_seen_27 rfl ?_
  exact G_VI (as := [vI a1, vI a2]) (st := []) n0_X5_add dX6_seen_28 ml_RX6_215 mc_X5_add rfl ⟨by decide, ⟨Nat.le_of_ble_eq_true rfl, Nat.le_of_ble_eq_true rfl⟩, Nat.le_of_ble_eq_true rfl⟩ h3 ⟨_, _, rfl⟩ c4 (fun z u hq => kq z u hq)
theorem k_X6_seen_31 {Γ : Gm} {Ret : Option Value → Wd → Prop} {s0 : Int} {p0 : Nat} {o1 o2 : Option Value} {w : Wd} (kt : s0 = 0 → G Γ m_X6_seen Ret 0 0 44 [some (vR p0), o1, o2] [] w) (kf : ¬ (s0 = 0) → G Γ m_X6_seen Ret 0 0 34 [some (vR p0), o1, o2] [] w) (h1 : sm s0 := by omega) : G Γ m_X6_seen Ret 0 0 31 [some (vR p0), o1, o2] [vI s0] w := by
  exact G_if_eq dX6_seen_31 (by decide) h1 kt kf
theorem k_X6_seen_44 {Γ : Gm} {Ret : Option Value → Wd → Prop} {o0 o1 o2 : Option Value} {w : Wd} (kr : Ret (some (vI (-3))) w) : G Γ m_X6_seen Ret 0 0 44 [o0, o1, o2] [] w := by
  refine G_bipush dX6_seen_44 (by decide +kernel) ?_
  exact G_reti dX6_seen_46 trivial ⟨rfl, Nat.le_of_ble_eq_true rfl⟩ kr
theorem k_X6_seen_34 {Γ : Gm} {Ret : Option Value → Wd → Prop} {p0 q1 : Nat} {o1 o2 : Option Value} {w : Wd} (kr : Ret (some (vI (wI w q1 2))) w) (h1 : sh w p0 = some (.inr 6) := by assumption) (h2 : wR w p0 8 = vR q1 := by assumption) (h3 : sh w q1 = some (.inr 5) := by assumption) : G Γ m_X6_seen Ret 0 0 34 [some (vR p0), o1, o2] [] w := by
  refine G_aload_n dX6_seen_34 rfl ?_
  refine G_getR dX6_seen_35 fl_RX6_48 h1 rfl h2 ?_
  refine G_getI dX6_seen_38 fl_RX6_219 h3 rfl ?_
  refine G_goto dX6_seen_41 (tgt := 46) (by decide) ?_
  exact G_reti dX6_seen_46 trivial ⟨rfl, Nat.le_of_ble_eq_true rfl⟩ kr
theorem k_X6_forget_0 {Γ : Gm} {Ret : Option Value → Wd → Prop} {p0 q1 : Nat} {w : Wd} {Q : Wd → Prop} (c4 : SpV Γ m_X5_clear [vR q1] w Q) (kq : ∀ u : Wd, Q u → G Γ m_X6_forget Ret 0 0 15 [some (vR p0), some (vI (wI w q1 2))] [] u) (h1 : sh w p0 = some (.inr 6) := by assumption) (h2 : wR w p0 8 = vR q1 := by assumption) (h3 : sh w q1 = some (.inr 5) := by assumption) : G Γ m_X6_forget Ret 0 0 0 [some (vR p0), none] [] w := by
  refine G_aload_n dX6_forget_0 rfl ?_
  refine G_getR dX6_forget_1 fl_RX6_48 h1 rfl h2 ?_
  refine G_getI dX6_forget_4 fl_RX6_219 h3 rfl ?_
  refine G_istore_n dX6_forget_7 (by decide) rfl ?_
  refine G_aload_n dX6_forget_8 rfl ?_
  refine G_getR dX6_forget_9 fl_RX6_48 h1 rfl h2 ?_
  exact G_VV (as := []) (st := []) n0_X5_clear dX6_forget_12 ml_RX6_101 mc_X5_clear rfl ⟨by decide, ⟨Nat.le_of_ble_eq_true rfl, Nat.le_of_ble_eq_true rfl⟩, Nat.le_of_ble_eq_true rfl⟩ h3 ⟨_, _, rfl⟩ c4 (fun u hq => kq u hq)
theorem k_X6_forget_15 {Γ : Gm} {Ret : Option Value → Wd → Prop} {a1 : Int} {o0 : Option Value} {w : Wd} (kr : Ret (some (vI a1)) w) : G Γ m_X6_forget Ret 0 0 15 [o0, some (vI a1)] [] w := by
  refine G_iload_n dX6_forget_15 rfl ?_
  exact G_reti dX6_forget_16 trivial ⟨rfl, Nat.le_of_ble_eq_true rfl⟩ kr
theorem k_X6_may_0 {Γ : Gm} {Ret : Option Value → Wd → Prop} {a1 : Int} {p0 : Nat} {w : Wd} (k28 : a1 = 0 → G Γ m_X6_may Ret 0 0 28 [some (vR p0), some (vI a1)] [] w) (k43 : a1 = 1 → G Γ m_X6_may Ret 0 0 43 [some (vR p0), some (vI a1)] [] w) (kd : (a1 ≠ 0 ∧ a1 ≠ 1) → G Γ m_X6_may Ret 0 0 58 [some (vR p0), some (vI a1)] [] w) (h1 : sm a1 := by omega) : G Γ m_X6_may Ret 0 0 0 [some (vR p0), some (vI a1)] [] w := by
  refine G_iload_n dX6_may_0 rfl ?_
  by_cases hv0 : a1 = 0
  · exact G_lookup (off := 27) (tgt := 28) dX6_may_1 h1 (by decide +kernel) (by rw [hv0]; rfl) (by decide) (k28 hv0)
  by_cases hv1 : a1 = 1
  · exact G_lookup (off := 42) (tgt := 43) dX6_may_1 h1 (by decide +kernel) (by rw [hv1]; rfl) (by decide) (k43 hv1)
  exact G_lookup (off := 57) (tgt := 58) dX6_may_1 h1 (by decide +kernel) (by simp [Op.lookupswitch.offset, Ne.symm hv0, Ne.symm hv1, hv0, hv1]) (by decide) (kd (by omega))
theorem k_X6_may_28 {Γ : Gm} {Ret : Option Value → Wd → Prop} {z3 : Int} {p0 q1 q2 : Nat} {o1 : Option Value} {w : Wd} (c6 : SpP Γ m_X5_kindsFor [vR q1, vI (wI w q2 12)] w z3) (kr : Ret (some (vI z3)) w) (h1 : sh w p0 = some (.inr 6) := by assumption) (h2 : wR w p0 8 = vR q1 := by assumption) (h3 : wR w p0 2 = vR q2 := by assumption) (h4 : sh w q2 = some (.inr 3) := by assumption) (h5 : sh w q1 = some (.inr 5) := by assumption) : G Γ m_X6_may Ret 0 0 28 [some (vR p0), o1] [] w := by
  refine G_aload_n dX6_may_28 rfl ?_
  refine G_getR dX6_may_29 fl_RX6_48 h1 rfl h2 ?_
  refine G_aload_n dX6_may_32 rfl ?_
  refine G_getR dX6_may_33 fl_RX6_16 h1 rfl h3 ?_
  refine G_getI dX6_may_36 fl_RX6_220 h4 rfl ?_
  refine G_VP (as := [vI (wI w q2 12)]) (st := []) n0_X5_kindsFor dX6_may_39 ml_RX6_223 mc_X5_kindsFor rfl ⟨by decide, ⟨Nat.le_of_ble_eq_true rfl, Nat.le_of_ble_eq_true rfl⟩, Nat.le_of_ble_eq_true rfl⟩ h5 ⟨_, _, rfl⟩ c6 ?_
  exact G_reti dX6_may_42 trivial ⟨rfl, Nat.le_of_ble_eq_true rfl⟩ kr
theorem k_X6_may_43 {Γ : Gm} {Ret : Option Value → Wd → Prop} {z3 : Int} {p0 q1 q2 : Nat} {o1 : Option Value} {w : Wd} (c6 : SpP Γ m_X5_givesFor [vR q1, vI (wI w q2 11)] w z3) (kr : Ret (some (vI z3)) w) (h1 : sh w p0 = some (.inr 6) := by assumption) (h2 : wR w p0 8 = vR q1 := by assumption) (h3 : wR w p0 2 = vR q2 := by assumption) (h4 : sh w q2 = some (.inr 3) := by assumption) (h5 : sh w q1 = some (.inr 5) := by assumption) : G Γ m_X6_may Ret 0 0 43 [some (vR p0), o1] [] w := by
  refine G_aload_n dX6_may_43 rfl ?_
  refine G_getR dX6_may_44 fl_RX6_48 h1 rfl h2 ?_
  refine G_aload_n dX6_may_47 rfl ?_
  refine G_getR dX6_may_48 fl_RX6_16 h1 rfl h3 ?_
  refine G_getI dX6_may_51 fl_RX6_226 h4 rfl ?_
  refine G_VP (as := [vI (wI w q2 11)]) (st := []) n0_X5_givesFor dX6_may_54 ml_RX6_229 mc_X5_givesFor rfl ⟨by decide, ⟨Nat.le_of_ble_eq_true rfl, Nat.le_of_ble_eq_true rfl⟩, Nat.le_of_ble_eq_true rfl⟩ h5 ⟨_, _, rfl⟩ c6 ?_
  exact G_reti dX6_may_57 trivial ⟨rfl, Nat.le_of_ble_eq_true rfl⟩ kr
theorem k_X6_may_58 {Γ : Gm} {Ret : Option Value → Wd → Prop} {o0 o1 : Option Value} {w : Wd} (kr : Ret (some (vI (-1))) w) : G Γ m_X6_may Ret 0 0 58 [o0, o1] [] w := by
  refine G_const dX6_may_58 ?_
  exact G_reti dX6_may_59 trivial ⟨rfl, Nat.le_of_ble_eq_true rfl⟩ kr
theorem k_X6_hall_0 {Γ : Gm} {Ret : Option Value → Wd → Prop} {a1 a2 z1 : Int} {p0 : Nat} {w : Wd} (c1 : SpP Γ m_X6_within [vI a1, vI 1, vI 6] w z1) (kt : z1 = 0 → G Γ m_X6_hall Ret 0 0 20 [some (vR p0), some (vI a1), some (vI a2)] [] w) (kf : ¬ (z1 = 0) → G Γ m_X6_hall Ret 0 0 10 [some (vR p0), some (vI a1), some (vI a2)] [] w) (h2 : sm z1 := by omega) : G Γ m_X6_hall Ret 0 0 0 [some (vR p0), some (vI a1), some (vI a2)] [] w := by
  refine G_iload_n dX6_hall_0 rfl ?_
  refine G_const dX6_hall_1 ?_
  refine G_bipush dX6_hall_2 (by decide +kernel) ?_
  refine G_SP (as := [vI a1, vI 1, vI 6]) (st := []) n0_X6_within dX6_hall_4 ml_RX6_89 mc_X6_within rfl ⟨by decide, ⟨Nat.le_of_ble_eq_true rfl, Nat.le_of_ble_eq_true rfl⟩, Nat.le_of_ble_eq_true rfl⟩ c1 ?_
  exact G_if_eq dX6_hall_7 (by decide) h2 kt kf
theorem k_X6_hall_20 {Γ : Gm} {Ret : Option Value → Wd → Prop} {o0 o1 o2 : Option Value} {w : Wd} (kr : Ret (some (vI (-1))) w) : G Γ m_X6_hall Ret 0 0 20 [o0, o1, o2] [] w := by
  refine G_const dX6_hall_20 ?_
  exact G_reti dX6_hall_21 trivial ⟨rfl, Nat.le_of_ble_eq_true rfl⟩ kr
theorem k_X6_hall_10 {Γ : Gm} {Ret : Option Value → Wd → Prop} {a1 a2 z1 : Int} {p0 : Nat} {w : Wd} (c1 : SpP Γ m_X6_within [vI a2, vI 1, vI 40] w z1) (kt : z1 ≠ 0 → G Γ m_X6_hall Ret 0 0 22 [some (vR p0), some (vI a1), some (vI a2)] [] w) (kf : z1 = 0 → G Γ m_X6_hall Ret 0 0 20 [some (vR p0), some (vI a1), some (vI a2)] [] w) (h2 : sm z1 := by omega) : G Γ m_X6_hall Ret 0 0 10 [some (vR p0), some (vI a1), some (vI a2)] [] w := by
  refine G_iload_n dX6_hall_10 rfl ?_
  refine G_const dX6_hall_11 ?_
  refine G_bipush dX6_hall_12 (by decide +kernel) ?_
  refine G_SP (as := [vI a2, vI 1, vI 40]) (st := []) n0_X6_within dX6_hall_14 ml_RX6_89 mc_X6_within rfl ⟨by decide, ⟨Nat.le_of_ble_eq_true rfl, Nat.le_of_ble_eq_true rfl⟩, Nat.le_of_ble_eq_true rfl⟩ c1 ?_
  exact G_if_ne dX6_hall_17 (by decide) h2 kt kf
theorem k_X6_hall_22 {Γ : Gm} {Ret : Option Value → Wd → Prop} {a1 a2 z3 : Int} {p0 q1 q2 : Nat} {w : Wd} (c5 : SpP Γ m_X0_hasRestFor [vR q1, vR q2, vI a1, vI a2] w z3) (kt : z3 = 0 → G Γ m_X6_hall Ret 0 0 40 [some (vR p0), some (vI a1), some (vI a2)] [] w) (kf : ¬ (z3 = 0) → G Γ m_X6_hall Ret 0 0 38 [some (vR p0), some (vI a1), some (vI a2)] [] w) (h1 : sh w p0 = some (.inr 6) := by assumption) (h2 : wR w p0 4 = vR q1 := by assumption) (h3 : wR w p0 2 = vR q2 := by assumption) (h4 : sh w q1 = some (.inr 0) := by assumption) (h6 : sm z3 := by omega) : G Γ m_X6_hall Ret 0 0 22 [some (vR p0), some (vI a1), some (vI a2)] [] w := by
  refine G_aload_n dX6_hall_22 rfl ?_
  refine G_getR dX6_hall_23 fl_RX6_26 h1 rfl h2 ?_
  refine G_aload_n dX6_hall_26 rfl ?_
  refine G_getR dX6_hall_27 fl_RX6_16 h1 rfl h3 ?_
  refine G_iload_n dX6_hall_30 rfl ?_
  refine G_iload_n dX6_hall_31 rfl ?_
  refine G_VP (as := [vR q2, vI a1, vI a2]) (st := []) n0_X0_hasRestFor dX6_hall_32 ml_RX6_232 mc_X0_hasRestFor rfl ⟨by decide, ⟨Nat.le_of_ble_eq_true rfl, Nat.le_of_ble_eq_true rfl⟩, Nat.le_of_ble_eq_true rfl⟩ h4 ⟨_, _, rfl⟩ c5 ?_
  exact G_if_eq dX6_hall_35 (by decide) h6 kt kf
theorem k_X6_hall_40 {Γ : Gm} {Ret : Option Value → Wd → Prop} {a1 a2 : Int} {p0 q1 : Nat} {w : Wd} (kt : (wI w q1 7) < a1 → G Γ m_X6_hall Ret 0 0 66 [some (vR p0), some (vI a1), some (vI a2)] [] w) (kf : ¬ ((wI w q1 7) < a1) → G Γ m_X6_hall Ret 0 0 51 [some (vR p0), some (vI a1), some (vI a2)] [] w) (h1 : sh w p0 = some (.inr 6) := by assumption) (h2 : wR w p0 2 = vR q1 := by assumption) (h3 : sh w q1 = some (.inr 3) := by assumption) (h4 : sm (wI w q1 7) := by omega) (h5 : sm a1 := by omega) : G Γ m_X6_hall Ret 0 0 40 [some (vR p0), some (vI a1), some (vI a2)] [] w := by
  refine G_aload_n dX6_hall_40 rfl ?_
  refine G_getR dX6_hall_41 fl_RX6_16 h1 rfl h2 ?_
  refine G_getI dX6_hall_44 fl_RX6_236 h3 rfl ?_
  refine G_iload_n dX6_hall_47 rfl ?_
  exact G_icmp_lt dX6_hall_48 (by decide) h4 h5 kt kf
theorem k_X6_hall_38 {Γ : Gm} {Ret : Option Value → Wd → Prop} {o0 o1 o2 : Option Value} {w : Wd} (kr : Ret (some (vI 1)) w) : G Γ m_X6_hall Ret 0 0 38 [o0, o1, o2] [] w := by
  refine G_const dX6_hall_38 ?_
  exact G_reti dX6_hall_39 trivial ⟨rfl, Nat.le_of_ble_eq_true rfl⟩ kr
theorem k_X6_hall_66 {Γ : Gm} {Ret : Option Value → Wd → Prop} {o0 o1 o2 : Option Value} {w : Wd} (kr : Ret (some (vI 0)) w) : G Γ m_X6_hall Ret 0 0 66 [o0, o1, o2] [] w := by
  refine G_const dX6_hall_66 ?_
  exact G_reti dX6_hall_67 trivial ⟨rfl, Nat.le_of_ble_eq_true rfl⟩ kr
theorem k_X6_hall_51 {Γ : Gm} {Ret : Option Value → Wd → Prop} {a2 : Int} {p0 q1 : Nat} {o1 : Option Value} {w : Wd} (kt : (wI w q1 4) < a2 → G Γ m_X6_hall Ret 0 0 66 [some (vR p0), o1, some (vI a2)] [] w) (kf : ¬ ((wI w q1 4) < a2) → G Γ m_X6_hall Ret 0 0 62 [some (vR p0), o1, some (vI a2)] [] w) (h1 : sh w p0 = some (.inr 6) := by assumption) (h2 : wR w p0 4 = vR q1 := by assumption) (h3 : sh w q1 = some (.inr 0) := by assumption) (h4 : sm (wI w q1 4) := by omega) (h5 : sm a2 := by omega) : G Γ m_X6_hall Ret 0 0 51 [some (vR p0), o1, some (vI a2)] [] w := by
  refine G_aload_n dX6_hall_51 rfl ?_
  refine G_getR dX6_hall_52 fl_RX6_26 h1 rfl h2 ?_
  refine G_getI dX6_hall_55 fl_RX6_239 h3 rfl ?_
  refine G_iload_n dX6_hall_58 rfl ?_
  exact G_icmp_lt dX6_hall_59 (by decide) h4 h5 kt kf
theorem k_X6_hall_62 {Γ : Gm} {Ret : Option Value → Wd → Prop} {o0 o1 o2 : Option Value} {w : Wd} (kr : Ret (some (vI 2)) w) : G Γ m_X6_hall Ret 0 0 62 [o0, o1, o2] [] w := by
  refine G_const dX6_hall_62 ?_
  refine G_goto dX6_hall_63 (tgt := 67) (by decide) ?_
  exact G_reti dX6_hall_67 trivial ⟨rfl, Nat.le_of_ble_eq_true rfl⟩ kr
theorem k_X6_left_0 {Γ : Gm} {Ret : Option Value → Wd → Prop} {a1 : Int} {p0 : Nat} {w : Wd} (k28 : a1 = 0 → G Γ m_X6_left Ret 0 0 28 [some (vR p0), some (vI a1)] [] w) (k40 : a1 = 1 → G Γ m_X6_left Ret 0 0 40 [some (vR p0), some (vI a1)] [] w) (kd : (a1 ≠ 0 ∧ a1 ≠ 1) → G Γ m_X6_left Ret 0 0 56 [some (vR p0), some (vI a1)] [] w) (h1 : sm a1 := by omega) : G Γ m_X6_left Ret 0 0 0 [some (vR p0), some (vI a1)] [] w := by
  refine G_iload_n dX6_left_0 rfl ?_
  by_cases hv0 : a1 = 0
  · exact G_lookup (off := 27) (tgt := 28) dX6_left_1 h1 (by decide +kernel) (by rw [hv0]; rfl) (by decide) (k28 hv0)
  by_cases hv1 : a1 = 1
  · exact G_lookup (off := 39) (tgt := 40) dX6_left_1 h1 (by decide +kernel) (by rw [hv1]; rfl) (by decide) (k40 hv1)
  exact G_lookup (off := 55) (tgt := 56) dX6_left_1 h1 (by decide +kernel) (by simp [Op.lookupswitch.offset, Ne.symm hv0, Ne.symm hv1, hv0, hv1]) (by decide) (kd (by omega))
theorem k_X6_left_28 {Γ : Gm} {Ret : Option Value → Wd → Prop} {z3 : Int} {p0 q1 q2 : Nat} {o1 : Option Value} {w : Wd} (c5 : SpP Γ m_X0_areaOfRests [vR q1, vR q2] w z3) (kr : Ret (some (vI z3)) w) (h1 : sh w p0 = some (.inr 6) := by assumption) (h2 : wR w p0 4 = vR q1 := by assumption) (h3 : wR w p0 2 = vR q2 := by assumption) (h4 : sh w q1 = some (.inr 0) := by assumption) : G Γ m_X6_left Ret 0 0 28 [some (vR p0), o1] [] w := by
  refine G_aload_n dX6_left_28 rfl ?_
  refine G_getR dX6_left_29 fl_RX6_26 h1 rfl h2 ?_
  refine G_aload_n dX6_left_32 rfl ?_
  refine G_getR dX6_left_33 fl_RX6_16 h1 rfl h3 ?_
  refine G_VP (as := [vR q2]) (st := []) n0_X0_areaOfRests dX6_left_36 ml_RX6_242 mc_X0_areaOfRests rfl ⟨by decide, ⟨Nat.le_of_ble_eq_true rfl, Nat.le_of_ble_eq_true rfl⟩, Nat.le_of_ble_eq_true rfl⟩ h4 ⟨_, _, rfl⟩ c5 ?_
  exact G_reti dX6_left_39 trivial ⟨rfl, Nat.le_of_ble_eq_true rfl⟩ kr
theorem k_X6_left_40 {Γ : Gm} {Ret : Option Value → Wd → Prop} {p0 q1 q2 : Nat} {o1 : Option Value} {w : Wd} (kr : Ret (some (vI ((wI w q1 7) * (wI w q2 4)))) w) (h1 : sh w p0 = some (.inr 6) := by assumption) (h2 : wR w p0 2 = vR q1 := by assumption) (h3 : sh w q1 = some (.inr 3) := by assumption) (h4 : wR w p0 4 = vR q2 := by assumption) (h5 : sh w q2 = some (.inr 0) := by assumption) : G Γ m_X6_left Ret 0 0 40 [some (vR p0), o1] [] w := by
  refine G_aload_n dX6_left_40 rfl ?_
  refine G_getR dX6_left_41 fl_RX6_16 h1 rfl h2 ?_
  refine G_getI dX6_left_44 fl_RX6_236 h3 rfl ?_
  refine G_aload_n dX6_left_47 rfl ?_
  refine G_getR dX6_left_48 fl_RX6_26 h1 rfl h4 ?_
  refine G_getI dX6_left_51 fl_RX6_239 h5 rfl ?_
  refine G_imul dX6_left_54 ?_
  exact G_reti dX6_left_55 trivial ⟨rfl, Nat.le_of_ble_eq_true rfl⟩ kr
theorem k_X6_left_56 {Γ : Gm} {Ret : Option Value → Wd → Prop} {o0 o1 : Option Value} {w : Wd} (kr : Ret (some (vI (-1))) w) : G Γ m_X6_left Ret 0 0 56 [o0, o1] [] w := by
  refine G_const dX6_left_56 ?_
  exact G_reti dX6_left_57 trivial ⟨rfl, Nat.le_of_ble_eq_true rfl⟩ kr
theorem k_X6_likely_0 {Γ : Gm} {Ret : Option Value → Wd → Prop} {a1 a2 a3 a4 z1 : Int} {p0 : Nat} {w : Wd} (c1 : SpP Γ m_X6_isWall [vI a1] w z1) (kt : z1 = 0 → G Γ m_X6_likely Ret 0 0 37 [some (vR p0), some (vI a1), some (vI a2), some (vI a3), some (vI a4), none, none, none] [] w) (kf : ¬ (z1 = 0) → G Γ m_X6_likely Ret 0 0 7 [some (vR p0), some (vI a1), some (vI a2), some (vI a3), some (vI a4), none, none, none] [] w) (h2 : sm z1 := by omega) : G Γ m_X6_likely Ret 0 0 0 [some (vR p0), some (vI a1), some (vI a2), some (vI a3), some (vI a4), none, none, none] [] w := by
  refine G_iload_n dX6_likely_0 rfl ?_
  refine G_SP (as := [vI a1]) (st := []) n0_X6_isWall dX6_likely_1 ml_RX6_119 mc_X6_isWall rfl ⟨by decide, ⟨Nat.le_of_ble_eq_true rfl, Nat.le_of_ble_eq_true rfl⟩, Nat.le_of_ble_eq_true rfl⟩ c1 ?_
  exact G_if_eq dX6_likely_4 (by decide) h2 kt kf
theorem k_X6_likely_37 {Γ : Gm} {Ret : Option Value → Wd → Prop} {o0 o1 o2 o3 o4 o5 o6 o7 : Option Value} {w : Wd} (kr : Ret (some (vI (-1))) w) : G Γ m_X6_likely Ret 0 0 37 [o0, o1, o2, o3, o4, o5, o6, o7] [] w := by
  refine G_const dX6_likely_37 ?_
  exact G_reti dX6_likely_38 trivial ⟨rfl, Nat.le_of_ble_eq_true rfl⟩ kr
theorem k_X6_likely_7 {Γ : Gm} {Ret : Option Value → Wd → Prop} {a1 a2 a3 a4 z1 : Int} {p0 : Nat} {o5 o6 o7 : Option Value} {w : Wd} (c1 : SpP Γ m_X6_within [vI a2, vI 0, vI 6] w z1) (kt : z1 = 0 → G Γ m_X6_likely Ret 0 0 37 [some (vR p0), some (vI a1), some (vI a2), some (vI a3), some (vI a4), o5, o6, o7] [] w) (kf : ¬ (z1 = 0) → G Γ m_X6_likely Ret 0 0 17 [some (vR p0), some (vI a1), some (vI a2), some (vI a3), some (vI a4), o5, o6, o7] [] w) (h2 : sm z1 := by omega) : G Γ m_X6_likely Ret 0 0 7 [some (vR p0), some (vI a1), some (vI a2), some (vI a3), some (vI a4), o5, o6, o7] [] w := by
  refine G_iload_n dX6_likely_7 rfl ?_
  refine G_const dX6_likely_8 ?_
  refine G_bipush dX6_likely_9 (by decide +kernel) ?_
  refine G_SP (as := [vI a2, vI 0, vI 6]) (st := []) n0_X6_within dX6_likely_11 ml_RX6_89 mc_X6_within rfl ⟨by decide, ⟨Nat.le_of_ble_eq_true rfl, Nat.le_of_ble_eq_true rfl⟩, Nat.le_of_ble_eq_true rfl⟩ c1 ?_
  exact G_if_eq dX6_likely_14 (by decide) h2 kt kf
theorem k_X6_likely_17 {Γ : Gm} {Ret : Option Value → Wd → Prop} {a1 a2 a3 a4 z1 : Int} {p0 : Nat} {o5 o6 o7 : Option Value} {w : Wd} (c1 : SpP Γ m_X6_within [vI a3, vI 0, vI 10] w z1) (kt : z1 = 0 → G Γ m_X6_likely Ret 0 0 37 [some (vR p0), some (vI a1), some (vI a2), some (vI a3), some (vI a4), o5, o6, o7] [] w) (kf : ¬ (z1 = 0) → G Γ m_X6_likely Ret 0 0 27 [some (vR p0), some (vI a1), some (vI a2), some (vI a3), some (vI a4), o5, o6, o7] [] w) (h2 : sm z1 := by omega) : G Γ m_X6_likely Ret 0 0 17 [some (vR p0), some (vI a1), some (vI a2), some (vI a3), some (vI a4), o5, o6, o7] [] w := by
  refine G_iload_n dX6_likely_17 rfl ?_
  refine G_const dX6_likely_18 ?_
  refine G_bipush dX6_likely_19 (by decide +kernel) ?_
  refine G_SP (as := [vI a3, vI 0, vI 10]) (st := []) n0_X6_within dX6_likely_21 ml_RX6_89 mc_X6_within rfl ⟨by decide, ⟨Nat.le_of_ble_eq_true rfl, Nat.le_of_ble_eq_true rfl⟩, Nat.le_of_ble_eq_true rfl⟩ c1 ?_
  exact G_if_eq dX6_likely_24 (by decide) h2 kt kf
theorem k_X6_likely_27 {Γ : Gm} {Ret : Option Value → Wd → Prop} {a1 a2 a3 a4 z1 : Int} {p0 : Nat} {o5 o6 o7 : Option Value} {w : Wd} (c1 : SpP Γ m_X6_within [vI a4, vI 0, vI 1] w z1) (kt : z1 ≠ 0 → G Γ m_X6_likely Ret 0 0 39 [some (vR p0), some (vI a1), some (vI a2), some (vI a3), some (vI a4), o5, o6, o7] [] w) (kf : z1 = 0 → G Γ m_X6_likely Ret 0 0 37 [some (vR p0), some (vI a1), some (vI a2), some (vI a3), some (vI a4), o5, o6, o7] [] w) (h2 : sm z1 := by omega) : G Γ m_X6_likely Ret 0 0 27 [some (vR p0), some (vI a1), some (vI a2), some (vI a3), some (vI a4), o5, o6, o7] [] w := by
  refine G_iload dX6_likely_27 rfl ?_
  refine G_const dX6_likely_29 ?_
  refine G_const dX6_likely_30 ?_
  refine G_SP (as := [vI a4, vI 0, vI 1]) (st := []) n0_X6_within dX6_likely_31 ml_RX6_89 mc_X6_within rfl ⟨by decide, ⟨Nat.le_of_ble_eq_true rfl, Nat.le_of_ble_eq_true rfl⟩, Nat.le_of_ble_eq_true rfl⟩ c1 ?_
  exact G_if_ne dX6_likely_34 (by decide) h2 kt kf
theorem k_X6_likely_39 {Γ : Gm} {Ret : Option Value → Wd → Prop} {a1 a2 a3 a4 z2 : Int} {p0 q1 : Nat} {o5 o6 o7 : Option Value} {w : Wd} (c4 : SpP Γ m_X0_isHooked [vR q1, vI a1] w z2) (kt : z2 ≠ 0 → G Γ m_X6_likely Ret 0 0 53 [some (vR p0), some (vI a1), some (vI a2), some (vI a3), some (vI a4), o5, o6, o7] [] w) (kf : z2 = 0 → G Γ m_X6_likely Ret 0 0 50 [some (vR p0), some (vI a1), some (vI a2), some (vI a3), some (vI a4), o5, o6, o7] [] w) (h1 : sh w p0 = some (.inr 6) := by assumption) (h2 : wR w p0 4 = vR q1 := by assumption) (h3 : sh w q1 = some (.inr 0) := by assumption) (h5 : sm z2 := by omega) : G Γ m_X6_likely Ret 0 0 39 [some (vR p0), some (vI a1), some (vI a2), some (vI a3), some (vI a4), o5, o6, o7] [] w := by
  refine G_aload_n dX6_likely_39 rfl ?_
  refine G_getR dX6_likely_40 fl_RX6_26 h1 rfl h2 ?_
  refine G_iload_n dX6_likely_43 rfl ?_
  refine G_VP (as := [vI a1]) (st := []) n0_X0_isHooked dX6_likely_44 ml_RX6_125 mc_X0_isHooked rfl ⟨by decide, ⟨Nat.le_of_ble_eq_true rfl, Nat.le_of_ble_eq_true rfl⟩, Nat.le_of_ble_eq_true rfl⟩ h3 ⟨_, _, rfl⟩ c4 ?_
  exact G_if_ne dX6_likely_47 (by decide) h5 kt kf
theorem k_X6_likely_53 {Γ : Gm} {Ret : Option Value → Wd → Prop} {a1 a2 a3 a4 z2 z3 z4 z5 : Int} {p0 q1 : Nat} {o5 o6 o7 : Option Value} {w : Wd} (c4 : SpP Γ m_X0_tightness [vR q1, vI a1] w z2) (c5 : SpP Γ m_X6_waysToWave [vI z2, vI a2, vI a3] w z3) (c6 : SpP Γ m_X6_power [vI 10, vI a2] w z4) (c7 : SpP Γ m_X6_commonDivisor [vI z3, vI z4] w z5) (kt : 0 < z5 → G Γ m_X6_likely Ret 0 0 93 [some (vR p0), some (vI a1), some (vI a2), some (vI a3), some (vI a4), some (vI z3), some (vI z4), some (vI z5)] [] w) (kf : ¬ (0 < z5) → G Γ m_X6_likely Ret 0 0 90 [some (vR p0), some (vI a1), some (vI a2), some (vI a3), some (vI a4), some (vI z3), some (vI z4), some (vI z5)] [] w) (h1 : sh w p0 = some (.inr 6) := by assumption) (h2 : wR w p0 4 = vR q1 := by assumption) (h3 : sh w q1 = some (.inr 0) := by assumption) (h8 : sm z5 := by omega) : G Γ m_X6_likely Ret 0 0 53 [some (vR p0), some (vI a1), some (vI a2), some (vI a3), some (vI a4), o5, o6, o7] [] w := by
  refine G_aload_n dX6_likely_53 rfl ?_
  refine G_getR dX6_likely_54 fl_RX6_26 h1 rfl h2 ?_
  refine G_iload_n dX6_likely_57 rfl ?_
  refine G_VP (as := [vI a1]) (st := []) n0_X0_tightness dX6_likely_58 ml_RX6_122 mc_X0_tightness rfl ⟨by decide, ⟨Nat.le_of_ble_eq_true rfl, Nat.le_of_ble_eq_true rfl⟩, Nat.le_of_ble_eq_true rfl⟩ h3 ⟨_, _, rfl⟩ c4 ?_
  refine G_iload_n dX6_likely_61 rfl ?_
  refine G_iload_n dX6_likely_62 rfl ?_
  refine G_SP (as := [vI z2, vI a2, vI a3]) (st := []) n0_X6_waysToWave dX6_likely_63 ml_RX6_246 mc_X6_waysToWave rfl ⟨by decide, ⟨Nat.le_of_ble_eq_true rfl, Nat.le_of_ble_eq_true rfl⟩, Nat.le_of_ble_eq_true rfl⟩ c5 ?_
  refine G_istore dX6_likely_66 (by decide) rfl ?_
  refine G_bipush dX6_likely_68 (by decide +kernel) ?_
  refine G_iload_n dX6_likely_70 rfl ?_
  refine G_SP (as := [vI 10, vI a2]) (st := []) n0_X6_power dX6_likely_71 ml_RX6_250 mc_X6_power rfl ⟨by decide, ⟨Nat.le_of_ble_eq_true rfl, Nat.le_of_ble_eq_true rfl⟩, Nat.le_of_ble_eq_true rfl⟩ c6 ?_
  refine G_istore dX6_likely_74 (by decide) rfl ?_
  refine G_iload dX6_likely_76 rfl ?_
  refine G_iload dX6_likely_78 rfl ?_
  refine G_SP (as := [vI z3, vI z4]) (st := []) n0_X6_commonDivisor dX6_likely_80 ml_RX6_253 mc_X6_commonDivisor rfl ⟨by decide, ⟨Nat.le_of_ble_eq_true rfl, Nat.le_of_ble_eq_true rfl⟩, Nat.le_of_ble_eq_true rfl⟩ c7 ?_
  refine G_istore dX6_likely_83 (by decide) rfl ?_
  refine G_iload dX6_likely_85 rfl ?_
  exact G_if_gt dX6_likely_87 (by decide) h8 kt kf
theorem k_X6_likely_50 {Γ : Gm} {Ret : Option Value → Wd → Prop} {o0 o1 o2 o3 o4 o5 o6 o7 : Option Value} {w : Wd} (kr : Ret (some (vI (-2))) w) : G Γ m_X6_likely Ret 0 0 50 [o0, o1, o2, o3, o4, o5, o6, o7] [] w := by
  refine G_bipush dX6_likely_50 (by decide +kernel) ?_
  exact G_reti dX6_likely_52 trivial ⟨rfl, Nat.le_of_ble_eq_true rfl⟩ kr
theorem k_X6_likely_93 {Γ : Gm} {Ret : Option Value → Wd → Prop} {a4 a5 a6 a7 : Int} {o0 o1 o2 o3 : Option Value} {w : Wd} (kt : a4 ≠ 0 → G Γ m_X6_likely Ret 0 0 106 [o0, o1, o2, o3, some (vI a4), some (vI a5), some (vI a6), some (vI a7)] [] w) (kf : a4 = 0 → G Γ m_X6_likely Ret 0 0 98 [o0, o1, o2, o3, some (vI a4), some (vI a5), some (vI a6), some (vI a7)] [] w) (h1 : sm a4 := by omega) : G Γ m_X6_likely Ret 0 0 93 [o0, o1, o2, o3, some (vI a4), some (vI a5), some (vI a6), some (vI a7)] [] w := by
  refine G_iload dX6_likely_93 rfl ?_
  exact G_if_ne dX6_likely_95 (by decide) h1 kt kf
theorem k_X6_likely_90 {Γ : Gm} {Ret : Option Value → Wd → Prop} {o0 o1 o2 o3 o4 o5 o6 o7 : Option Value} {w : Wd} (kr : Ret (some (vI (-4))) w) : G Γ m_X6_likely Ret 0 0 90 [o0, o1, o2, o3, o4, o5, o6, o7] [] w := by
  refine G_bipush dX6_likely_90 (by decide +kernel) ?_
  exact G_reti dX6_likely_92 trivial ⟨rfl, Nat.le_of_ble_eq_true rfl⟩ kr
theorem k_X6_likely_106 {Γ : Gm} {Ret : Option Value → Wd → Prop} {a6 a7 : Int} {o0 o1 o2 o3 o4 o5 : Option Value} {w : Wd} (kr : Ret (some (vI (Int.tdiv a6 a7))) w) (h1 : sm a6 := by omega) (h2 : sm a7 := by omega) (h3 : a7 ≠ 0 := by omega) (h4 : a7 ≠ -1 := by omega) : G Γ m_X6_likely Ret 0 0 106 [o0, o1, o2, o3, o4, o5, some (vI a6), some (vI a7)] [] w := by
  refine G_iload dX6_likely_106 rfl ?_
  refine G_iload dX6_likely_108 rfl ?_
  refine G_idiv dX6_likely_110 h1 h2 h3 h4 ?_
  exact G_reti dX6_likely_111 trivial ⟨rfl, Nat.le_of_ble_eq_true rfl⟩ kr
theorem k_X6_likely_98 {Γ : Gm} {Ret : Option Value → Wd → Prop} {a5 a7 : Int} {o0 o1 o2 o3 o4 o6 : Option Value} {w : Wd} (kr : Ret (some (vI (Int.tdiv a5 a7))) w) (h1 : sm a5 := by omega) (h2 : sm a7 := by omega) (h3 : a7 ≠ 0 := by omega) (h4 : a7 ≠ -1 := by omega) : G Γ m_X6_likely Ret 0 0 98 [o0, o1, o2, o3, o4, some (vI a5), o6, some (vI a7)] [] w := by
  refine G_iload dX6_likely_98 rfl ?_
  refine G_iload dX6_likely_100 rfl ?_
  refine G_idiv dX6_likely_102 h1 h2 h3 h4 ?_
  refine G_goto dX6_likely_103 (tgt := 111) (by decide) ?_
  exact G_reti dX6_likely_111 trivial ⟨rfl, Nat.le_of_ble_eq_true rfl⟩ kr
theorem k_X6_year_0 {Γ : Gm} {Ret : Option Value → Wd → Prop} {a1 a2 a3 z1 : Int} {p0 : Nat} {w : Wd} (c1 : SpP Γ m_X6_within [vI a1, vI 0, vI 9999] w z1) (kt : z1 = 0 → G Γ m_X6_year Ret 0 0 30 [some (vR p0), some (vI a1), some (vI a2), some (vI a3), none] [] w) (kf : ¬ (z1 = 0) → G Γ m_X6_year Ret 0 0 11 [some (vR p0), some (vI a1), some (vI a2), some (vI a3), none] [] w) (h2 : sm z1 := by omega) : G Γ m_X6_year Ret 0 0 0 [some (vR p0), some (vI a1), some (vI a2), some (vI a3), none] [] w := by
  refine G_iload_n dX6_year_0 rfl ?_
  refine G_const dX6_year_1 ?_
  refine G_sipush dX6_year_2 (by decide +kernel) ?_
  refine G_SP (as := [vI a1, vI 0, vI 9999]) (st := []) n0_X6_within dX6_year_5 ml_RX6_89 mc_X6_within rfl ⟨by decide, ⟨Nat.le_of_ble_eq_true rfl, Nat.le_of_ble_eq_true rfl⟩, Nat.le_of_ble_eq_true rfl⟩ c1 ?_
  exact G_if_eq dX6_year_8 (by decide) h2 kt kf
theorem k_X6_year_30 {Γ : Gm} {Ret : Option Value → Wd → Prop} {o0 o1 o2 o3 o4 : Option Value} {w : Wd} (kr : Ret (some (vI (-1))) w) : G Γ m_X6_year Ret 0 0 30 [o0, o1, o2, o3, o4] [] w := by
  refine G_const dX6_year_30 ?_
  exact G_reti dX6_year_31 trivial ⟨rfl, Nat.le_of_ble_eq_true rfl⟩ kr
theorem k_X6_year_11 {Γ : Gm} {Ret : Option Value → Wd → Prop} {a1 a2 a3 z1 : Int} {p0 : Nat} {o4 : Option Value} {w : Wd} (c1 : SpP Γ m_X6_within [vI a2, vI 1, vI 40] w z1) (kt : z1 = 0 → G Γ m_X6_year Ret 0 0 30 [some (vR p0), some (vI a1), some (vI a2), some (vI a3), o4] [] w) (kf : ¬ (z1 = 0) → G Γ m_X6_year Ret 0 0 21 [some (vR p0), some (vI a1), some (vI a2), some (vI a3), o4] [] w) (h2 : sm z1 := by omega) : G Γ m_X6_year Ret 0 0 11 [some (vR p0), some (vI a1), some (vI a2), some (vI a3), o4] [] w := by
  refine G_iload_n dX6_year_11 rfl ?_
  refine G_const dX6_year_12 ?_
  refine G_bipush dX6_year_13 (by decide +kernel) ?_
  refine G_SP (as := [vI a2, vI 1, vI 40]) (st := []) n0_X6_within dX6_year_15 ml_RX6_89 mc_X6_within rfl ⟨by decide, ⟨Nat.le_of_ble_eq_true rfl, Nat.le_of_ble_eq_true rfl⟩, Nat.le_of_ble_eq_true rfl⟩ c1 ?_
  exact G_if_eq dX6_year_18 (by decide) h2 kt kf
theorem k_X6_year_21 {Γ : Gm} {Ret : Option Value → Wd → Prop} {a1 a2 a3 z1 : Int} {p0 : Nat} {o4 : Option Value} {w : Wd} (c1 : SpP Γ m_X6_within [vI a3, vI 0, vI 1] w z1) (kt : z1 ≠ 0 → G Γ m_X6_year Ret 0 0 32 [some (vR p0), some (vI a1), some (vI a2), some (vI a3), o4] [] w) (kf : z1 = 0 → G Γ m_X6_year Ret 0 0 30 [some (vR p0), some (vI a1), some (vI a2), some (vI a3), o4] [] w) (h2 : sm z1 := by omega) : G Γ m_X6_year Ret 0 0 21 [some (vR p0), some (vI a1), some (vI a2), some (vI a3), o4] [] w := by
  refine G_iload_n dX6_year_21 rfl ?_
  refine G_const dX6_year_22 ?_
  refine G_const dX6_year_23 ?_
  refine G_SP (as := [vI a3, vI 0, vI 1]) (st := []) n0_X6_within dX6_year_24 ml_RX6_89 mc_X6_within rfl ⟨by decide, ⟨Nat.le_of_ble_eq_true rfl, Nat.le_of_ble_eq_true rfl⟩, Nat.le_of_ble_eq_true rfl⟩ c1 ?_
  exact G_if_ne dX6_year_27 (by decide) h2 kt kf
theorem k_X6_year_32 {Γ : Gm} {Ret : Option Value → Wd → Prop} {a1 a2 a3 z3 : Int} {p0 q1 q2 : Nat} {o4 : Option Value} {w : Wd} (c5 : SpP Γ m_X0_isCovered [vR q1, vR q2] w z3) (kt : z3 ≠ 0 → G Γ m_X6_year Ret 0 0 49 [some (vR p0), some (vI a1), some (vI a2), some (vI a3), o4] [] w) (kf : z3 = 0 → G Γ m_X6_year Ret 0 0 46 [some (vR p0), some (vI a1), some (vI a2), some (vI a3), o4] [] w) (h1 : sh w p0 = some (.inr 6) := by assumption) (h2 : wR w p0 4 = vR q1 := by assumption) (h3 : wR w p0 2 = vR q2 := by assumption) (h4 : sh w q1 = some (.inr 0) := by assumption) (h6 : sm z3 := by omega) : G Γ m_X6_year Ret 0 0 32 [some (vR p0), some (vI a1), some (vI a2), some (vI a3), o4] [] w := by
  refine G_aload_n dX6_year_32 rfl ?_
  refine G_getR dX6_year_33 fl_RX6_26 h1 rfl h2 ?_
  refine G_aload_n dX6_year_36 rfl ?_
  refine G_getR dX6_year_37 fl_RX6_16 h1 rfl h3 ?_
  refine G_VP (as := [vR q2]) (st := []) n0_X0_isCovered dX6_year_40 ml_RX6_149 mc_X0_isCovered rfl ⟨by decide, ⟨Nat.le_of_ble_eq_true rfl, Nat.le_of_ble_eq_true rfl⟩, Nat.le_of_ble_eq_true rfl⟩ h4 ⟨_, _, rfl⟩ c5 ?_
  exact G_if_ne dX6_year_43 (by decide) h6 kt kf
theorem k_X6_year_49 {Γ : Gm} {Ret : Option Value → Wd → Prop} {a1 a2 a3 : Int} {p0 q1 q2 : Nat} {o4 : Option Value} {w : Wd} {Q : Wd → Prop} (c5 : SpV Γ m_X0_copyFrom [vR q1, vR q2] w Q) (kq : ∀ u : Wd, Q u → G Γ m_X6_year Ret 0 0 60 [some (vR p0), some (vI a1), some (vI a2), some (vI a3), o4] [] u) (h1 : sh w p0 = some (.inr 6) := by assumption) (h2 : wR w p0 5 = vR q1 := by assumption) (h3 : wR w p0 4 = vR q2 := by assumption) (h4 : sh w q1 = some (.inr 0) := by assumption) : G Γ m_X6_year Ret 0 0 49 [some (vR p0), some (vI a1), some (vI a2), some (vI a3), o4] [] w := by
  refine G_aload_n dX6_year_49 rfl ?_
  refine G_getR dX6_year_50 fl_RX6_30 h1 rfl h2 ?_
  refine G_aload_n dX6_year_53 rfl ?_
  refine G_getR dX6_year_54 fl_RX6_26 h1 rfl h3 ?_
  exact G_VV (as := [vR q2]) (st := []) n0_X0_copyFrom dX6_year_57 ml_RX6_256 mc_X0_copyFrom rfl ⟨by decide, ⟨Nat.le_of_ble_eq_true rfl, Nat.le_of_ble_eq_true rfl⟩, Nat.le_of_ble_eq_true rfl⟩ h4 ⟨_, _, rfl⟩ c5 (fun u hq => kq u hq)
theorem k_X6_year_46 {Γ : Gm} {Ret : Option Value → Wd → Prop} {o0 o1 o2 o3 o4 : Option Value} {w : Wd} (kr : Ret (some (vI (-2))) w) : G Γ m_X6_year Ret 0 0 46 [o0, o1, o2, o3, o4] [] w := by
  refine G_bipush dX6_year_46 (by decide +kernel) ?_
  exact G_reti dX6_year_48 trivial ⟨rfl, Nat.le_of_ble_eq_true rfl⟩ kr
theorem k_X6_year_60 {Γ : Gm} {Ret : Option Value → Wd → Prop} {a1 a2 a3 : Int} {p0 : Nat} {o4 : Option Value} {w : Wd} (km : G Γ m_X6_year Ret 0 0 63 [some (vR p0), some (vI a1), some (vI a2), some (vI a3), some (vI 0)] [] w) : G Γ m_X6_year Ret 0 0 60 [some (vR p0), some (vI a1), some (vI a2), some (vI a3), o4] [] w := by
  refine G_const dX6_year_60 ?_
  refine G_istore dX6_year_61 (by decide) rfl ?_
  exact km
theorem k_X6_year_63 {Γ : Gm} {Ret : Option Value → Wd → Prop} {a1 a2 a3 a4 : Int} {p0 : Nat} {w : Wd} (kt : a2 ≤ a4 → G Γ m_X6_year Ret 0 0 92 [some (vR p0), some (vI a1), some (vI a2), some (vI a3), some (vI a4)] [] w) (kf : ¬ (a2 ≤ a4) → G Γ m_X6_year Ret 0 0 69 [some (vR p0), some (vI a1), some (vI a2), some (vI a3), some (vI a4)] [] w) (h1 : sm a4 := by omega) (h2 : sm a2 := by omega) : G Γ m_X6_year Ret 0 0 63 [some (vR p0), some (vI a1), some (vI a2), some (vI a3), some (vI a4)] [] w := by
  refine G_iload dX6_year_63 rfl ?_
  refine G_iload_n dX6_year_65 rfl ?_
  exact G_icmp_ge dX6_year_66 (by decide) h1 h2 kt kf
theorem k_X6_year_92 {Γ : Gm} {Ret : Option Value → Wd → Prop} {a3 : Int} {p0 : Nat} {o1 o2 o4 : Option Value} {w : Wd} (kt : a3 ≠ 0 → G Γ m_X6_year Ret 0 0 109 [some (vR p0), o1, o2, some (vI a3), o4] [] w) (kf : a3 = 0 → G Γ m_X6_year Ret 0 0 96 [some (vR p0), o1, o2, some (vI a3), o4] [] w) (h1 : sm a3 := by omega) : G Γ m_X6_year Ret 0 0 92 [some (vR p0), o1, o2, some (vI a3), o4] [] w := by
  refine G_iload_n dX6_year_92 rfl ?_
  exact G_if_ne dX6_year_93 (by decide) h1 kt kf
theorem k_X6_year_69 {Γ : Gm} {Ret : Option Value → Wd → Prop} {a1 a2 a3 a4 z3 : Int} {p0 q1 q2 : Nat} {w : Wd} {Q : Wd → Prop} (c4 : SpP Γ m_X6_draw [vI a1, vI a4] w z3) (c6 : SpV Γ m_X0_takeStep [vR q1, vR q2, vI z3] w Q) (kq : ∀ u : Wd, Q u → G Γ m_X6_year Ret 0 0 86 [some (vR p0), some (vI a1), some (vI a2), some (vI a3), some (vI a4)] [] u) (h1 : sh w p0 = some (.inr 6) := by assumption) (h2 : wR w p0 5 = vR q1 := by assumption) (h3 : wR w p0 2 = vR q2 := by assumption) (h5 : sh w q1 = some (.inr 0) := by assumption) : G Γ m_X6_year Ret 0 0 69 [some (vR p0), some (vI a1), some (vI a2), some (vI a3), some (vI a4)] [] w := by
  refine G_aload_n dX6_year_69 rfl ?_
  refine G_getR dX6_year_70 fl_RX6_30 h1 rfl h2 ?_
  refine G_aload_n dX6_year_73 rfl ?_
  refine G_getR dX6_year_74 fl_RX6_16 h1 rfl h3 ?_
  refine G_iload_n dX6_year_77 rfl ?_
  refine G_iload dX6_year_78 rfl ?_
  refine G_SP (as := [vI a1, vI a4]) (st := [vR q2, vR q1]) n0_X6_draw dX6_year_80 ml_RX6_259 mc_X6_draw rfl ⟨by decide, ⟨Nat.le_of_ble_eq_true rfl, Nat.le_of_ble_eq_true rfl⟩, Nat.le_of_ble_eq_true rfl⟩ c4 ?_
  exact G_VV (as := [vR q2, vI z3]) (st := []) n0_X0_takeStep dX6_year_83 ml_RX6_262 mc_X0_takeStep rfl ⟨by decide, ⟨Nat.le_of_ble_eq_true rfl, Nat.le_of_ble_eq_true rfl⟩, Nat.le_of_ble_eq_true rfl⟩ h5 ⟨_, _, rfl⟩ c6 (fun u hq => kq u hq)
theorem k_X6_year_109 {Γ : Gm} {Ret : Option Value → Wd → Prop} {z2 : Int} {p0 q1 : Nat} {o1 o2 o3 o4 : Option Value} {w : Wd} (c4 : SpP Γ m_X0_tightnessInAll [vR q1] w z2) (kr : Ret (some (vI z2)) w) (h1 : sh w p0 = some (.inr 6) := by assumption) (h2 : wR w p0 5 = vR q1 := by assumption) (h3 : sh w q1 = some (.inr 0) := by assumption) : G Γ m_X6_year Ret 0 0 109 [some (vR p0), o1, o2, o3, o4] [] w := by
  refine G_aload_n dX6_year_109 rfl ?_
  refine G_getR dX6_year_110 fl_RX6_30 h1 rfl h2 ?_
  refine G_VP (as := []) (st := []) n0_X0_tightnessInAll dX6_year_113 ml_RX6_274 mc_X0_tightnessInAll rfl ⟨by decide, ⟨Nat.le_of_ble_eq_true rfl, Nat.le_of_ble_eq_true rfl⟩, Nat.le_of_ble_eq_true rfl⟩ h3 ⟨_, _, rfl⟩ c4 ?_
  exact G_reti dX6_year_116 trivial ⟨rfl, Nat.le_of_ble_eq_true rfl⟩ kr
theorem k_X6_year_96 {Γ : Gm} {Ret : Option Value → Wd → Prop} {z2 : Int} {p0 q1 : Nat} {o1 o2 o3 o4 : Option Value} {w : Wd} (c4 : SpP Γ m_J6_bitCount_0f7a4 [vI (wI w q1 6)] w z2) (kr : Ret (some (vI z2)) w) (h1 : sh w p0 = some (.inr 6) := by assumption) (h2 : wR w p0 5 = vR q1 := by assumption) (h3 : sh w q1 = some (.inr 0) := by assumption) : G Γ m_X6_year Ret 0 0 96 [some (vR p0), o1, o2, o3, o4] [] w := by
  refine G_aload_n dX6_year_96 rfl ?_
  refine G_getR dX6_year_97 fl_RX6_30 h1 rfl h2 ?_
  refine G_getI dX6_year_100 fl_RX6_266 h3 rfl ?_
  refine G_SP (as := [vI (wI w q1 6)]) (st := []) n0_J6_bitCount_0f7a4 dX6_year_103 ml_RX6_269 mc_J6_bitCount_0f7a4 rfl ⟨by decide, ⟨Nat.le_of_ble_eq_true rfl, Nat.le_of_ble_eq_true rfl⟩, Nat.le_of_ble_eq_true rfl⟩ c4 ?_
  refine G_goto dX6_year_106 (tgt := 116) (by decide) ?_
  exact G_reti dX6_year_116 trivial ⟨rfl, Nat.le_of_ble_eq_true rfl⟩ kr
theorem k_X6_year_86 {Γ : Gm} {Ret : Option Value → Wd → Prop} {a1 a2 a3 a4 : Int} {p0 : Nat} {w : Wd} (km : G Γ m_X6_year Ret 0 0 63 [some (vR p0), some (vI a1), some (vI a2), some (vI a3), some (vI (a4 + 1))] [] w) : G Γ m_X6_year Ret 0 0 86 [some (vR p0), some (vI a1), some (vI a2), some (vI a3), some (vI a4)] [] w := by
  refine G_iinc dX6_year_86 (by decide) rfl rfl ?_
  refine G_goto dX6_year_89 (tgt := 63) (by decide) ?_
  exact km
theorem k_X6_keep_0 {Γ : Gm} {Ret : Option Value → Wd → Prop} {z2 : Int} {p0 q1 : Nat} {w : Wd} (c4 : SpP Γ m_X4_isFull [vR q1] w z2) (kt : z2 = 0 → G Γ m_X6_keep Ret 0 0 13 [some (vR p0)] [] w) (kf : ¬ (z2 = 0) → G Γ m_X6_keep Ret 0 0 10 [some (vR p0)] [] w) (h1 : sh w p0 = some (.inr 6) := by assumption) (h2 : wR w p0 7 = vR q1 := by assumption) (h3 : sh w q1 = some (.inr 4) := by assumption) (h5 : sm z2 := by omega) : G Γ m_X6_keep Ret 0 0 0 [some (vR p0)] [] w := by
  refine G_aload_n dX6_keep_0 rfl ?_
  refine G_getR dX6_keep_1 fl_RX6_42 h1 rfl h2 ?_
  refine G_VP (as := []) (st := []) n0_X4_isFull dX6_keep_4 ml_RX6_277 mc_X4_isFull rfl ⟨by decide, ⟨Nat.le_of_ble_eq_true rfl, Nat.le_of_ble_eq_true rfl⟩, Nat.le_of_ble_eq_true rfl⟩ h3 ⟨_, _, rfl⟩ c4 ?_
  exact G_if_eq dX6_keep_7 (by decide) h5 kt kf
theorem k_X6_keep_13 {Γ : Gm} {Ret : Option Value → Wd → Prop} {p0 q1 q2 : Nat} {w : Wd} {Q : Wd → Prop} (c5 : SpV Γ m_X4_push [vR q1, vR q2] w Q) (kq : ∀ u : Wd, Q u → G Γ m_X6_keep Ret 0 0 24 [some (vR p0)] [] u) (h1 : sh w p0 = some (.inr 6) := by assumption) (h2 : wR w p0 7 = vR q1 := by assumption) (h3 : wR w p0 4 = vR q2 := by assumption) (h4 : sh w q1 = some (.inr 4) := by assumption) : G Γ m_X6_keep Ret 0 0 13 [some (vR p0)] [] w := by
  refine G_aload_n dX6_keep_13 rfl ?_
  refine G_getR dX6_keep_14 fl_RX6_42 h1 rfl h2 ?_
  refine G_aload_n dX6_keep_17 rfl ?_
  refine G_getR dX6_keep_18 fl_RX6_26 h1 rfl h3 ?_
  exact G_VV (as := [vR q2]) (st := []) n0_X4_push dX6_keep_21 ml_RX6_141 mc_X4_push rfl ⟨by decide, ⟨Nat.le_of_ble_eq_true rfl, Nat.le_of_ble_eq_true rfl⟩, Nat.le_of_ble_eq_true rfl⟩ h4 ⟨_, _, rfl⟩ c5 (fun u hq => kq u hq)
theorem k_X6_keep_10 {Γ : Gm} {Ret : Option Value → Wd → Prop} {o0 : Option Value} {w : Wd} (kr : Ret (some (vI (-3))) w) : G Γ m_X6_keep Ret 0 0 10 [o0] [] w := by
  refine G_bipush dX6_keep_10 (by decide +kernel) ?_
  exact G_reti dX6_keep_12 trivial ⟨rfl, Nat.le_of_ble_eq_true rfl⟩ kr
theorem k_X6_keep_24 {Γ : Gm} {Ret : Option Value → Wd → Prop} {p0 q1 : Nat} {w : Wd} (kr : Ret (some (vI (wI w q1 2))) w) (h1 : sh w p0 = some (.inr 6) := by assumption) (h2 : wR w p0 7 = vR q1 := by assumption) (h3 : sh w q1 = some (.inr 4) := by assumption) : G Γ m_X6_keep Ret 0 0 24 [some (vR p0)] [] w := by
  refine G_aload_n dX6_keep_24 rfl ?_
  refine G_getR dX6_keep_25 fl_RX6_42 h1 rfl h2 ?_
  refine G_getI dX6_keep_28 fl_RX6_174 h3 rfl ?_
  exact G_reti dX6_keep_31 trivial ⟨rfl, Nat.le_of_ble_eq_true rfl⟩ kr
theorem k_X6_back_0 {Γ : Gm} {Ret : Option Value → Wd → Prop} {p0 q1 q2 : Nat} {w : Wd} {Q : Int → Wd → Prop} (c5 : SpI Γ m_X4_pop [vR q1, vR q2] w Q) (kq : ∀ (z : Int) (u : Wd), Q z u → G Γ m_X6_back Ret 0 0 11 [some (vR p0)] [vI z] u) (h1 : sh w p0 = some (.inr 6) := by assumption) (h2 : wR w p0 7 = vR q1 := by assumption) (h3 : wR w p0 4 = vR q2 := by assumption) (h4 : sh w q1 = some (.inr 4) := by assumption) : G Γ m_X6_back Ret 0 0 0 [some (vR p0)] [] w := by
  refine G_aload_n dX6_back_0 rfl ?_
  refine G_getR dX6_back_1 fl_RX6_42 h1 rfl h2 ?_
  refine G_aload_n dX6_back_4 rfl ?_
  refine G_getR dX6_back_5 fl_RX6_26 h1 rfl h3 ?_
  exact G_VI (as := [vR q2]) (st := []) n0_X4_pop dX6_back_8 ml_RX6_170 mc_X4_pop rfl ⟨by decide, ⟨Nat.le_of_ble_eq_true rfl, Nat.le_of_ble_eq_true rfl⟩, Nat.le_of_ble_eq_true rfl⟩ h4 ⟨_, _, rfl⟩ c5 (fun z u hq => kq z u hq)
theorem k_X6_back_11 {Γ : Gm} {Ret : Option Value → Wd → Prop} {s0 : Int} {p0 : Nat} {w : Wd} (kt : s0 ≠ 0 → G Γ m_X6_back Ret 0 0 17 [some (vR p0)] [] w) (kf : s0 = 0 → G Γ m_X6_back Ret 0 0 14 [some (vR p0)] [] w) (h1 : sm s0 := by omega) : G Γ m_X6_back Ret 0 0 11 [some (vR p0)] [vI s0] w := by
  exact G_if_ne dX6_back_11 (by decide) h1 kt kf
theorem k_X6_back_17 {Γ : Gm} {Ret : Option Value → Wd → Prop} {p0 q1 : Nat} {w : Wd} {Q : Wd → Prop} (c4 : SpV Γ m_X4_clear [vR q1] w Q) (kq : ∀ u : Wd, Q u → G Γ m_X6_back Ret 0 0 24 [some (vR p0)] [] u) (h1 : sh w p0 = some (.inr 6) := by assumption) (h2 : wR w p0 6 = vR q1 := by assumption) (h3 : sh w q1 = some (.inr 4) := by assumption) : G Γ m_X6_back Ret 0 0 17 [some (vR p0)] [] w := by
  refine G_aload_n dX6_back_17 rfl ?_
  refine G_getR dX6_back_18 fl_RX6_38 h1 rfl h2 ?_
  exact G_VV (as := []) (st := []) n0_X4_clear dX6_back_21 ml_RX6_99 mc_X4_clear rfl ⟨by decide, ⟨Nat.le_of_ble_eq_true rfl, Nat.le_of_ble_eq_true rfl⟩, Nat.le_of_ble_eq_true rfl⟩ h3 ⟨_, _, rfl⟩ c4 (fun u hq => kq u hq)
theorem k_X6_back_14 {Γ : Gm} {Ret : Option Value → Wd → Prop} {o0 : Option Value} {w : Wd} (kr : Ret (some (vI (-2))) w) : G Γ m_X6_back Ret 0 0 14 [o0] [] w := by
  refine G_bipush dX6_back_14 (by decide +kernel) ?_
  exact G_reti dX6_back_16 trivial ⟨rfl, Nat.le_of_ble_eq_true rfl⟩ kr
theorem k_X6_back_24 {Γ : Gm} {Ret : Option Value → Wd → Prop} {p0 q1 : Nat} {w : Wd} (kr : Ret (some (vI (wI w q1 2))) w) (h1 : sh w p0 = some (.inr 6) := by assumption) (h2 : wR w p0 7 = vR q1 := by assumption) (h3 : sh w q1 = some (.inr 4) := by assumption) : G Γ m_X6_back Ret 0 0 24 [some (vR p0)] [] w := by
  refine G_aload_n dX6_back_24 rfl ?_
  refine G_getR dX6_back_25 fl_RX6_42 h1 rfl h2 ?_
  refine G_getI dX6_back_28 fl_RX6_174 h3 rfl ?_
  exact G_reti dX6_back_31 trivial ⟨rfl, Nat.le_of_ble_eq_true rfl⟩ kr
theorem k_X6_count_0 {Γ : Gm} {Ret : Option Value → Wd → Prop} {a1 : Int} {p0 : Nat} {w : Wd} (k60 : a1 = 0 → G Γ m_X6_count Ret 0 0 60 [some (vR p0), some (vI a1)] [] w) (k68 : a1 = 1 → G Γ m_X6_count Ret 0 0 68 [some (vR p0), some (vI a1)] [] w) (k76 : a1 = 2 → G Γ m_X6_count Ret 0 0 76 [some (vR p0), some (vI a1)] [] w) (k84 : a1 = 3 → G Γ m_X6_count Ret 0 0 84 [some (vR p0), some (vI a1)] [] w) (k98 : a1 = 4 → G Γ m_X6_count Ret 0 0 98 [some (vR p0), some (vI a1)] [] w) (k109 : a1 = 5 → G Γ m_X6_count Ret 0 0 109 [some (vR p0), some (vI a1)] [] w) (k120 : a1 = 6 → G Γ m_X6_count Ret 0 0 120 [some (vR p0), some (vI a1)] [] w) (k128 : a1 = 7 → G Γ m_X6_count Ret 0 0 128 [some (vR p0), some (vI a1)] [] w) (k136 : a1 = 8 → G Γ m_X6_count Ret 0 0 136 [some (vR p0), some (vI a1)] [] w) (k144 : a1 = 9 → G Γ m_X6_count Ret 0 0 144 [some (vR p0), some (vI a1)] [] w) (k152 : a1 = 10 → G Γ m_X6_count Ret 0 0 152 [some (vR p0), some (vI a1)] [] w) (kd : (a1 ≠ 0 ∧ a1 ≠ 1 ∧ a1 ≠ 2 ∧ a1 ≠ 3 ∧ a1 ≠ 4 ∧ a1 ≠ 5 ∧ a1 ≠ 6 ∧ a1 ≠ 7 ∧ a1 ≠ 8 ∧ a1 ≠ 9 ∧ a1 ≠ 10) → G Γ m_X6_count Ret 0 0 157 [some (vR p0), some (vI a1)] [] w) (h1 : sm a1 := by omega) : G Γ m_X6_count Ret 0 0 0 [some (vR p0), some (vI a1)] [] w := by
  refine G_iload_n dX6_count_0 rfl ?_
  by_cases hq : a1 < 0 ∨ 10 < a1
  · exact G_tableOut dX6_count_1 h1 hq (by decide) (kd (by omega))
  by_cases hv0 : a1 = 0
  · exact G_tableIn (off := 59) (tgt := 60) dX6_count_1 h1 (by omega) (by omega) (by rw [hv0]; rfl) (by decide) (k60 (by omega))
  by_cases hv1 : a1 = 1
  · exact G_tableIn (off := 67) (tgt := 68) dX6_count_1 h1 (by omega) (by omega) (by rw [hv1]; rfl) (by decide) (k68 (by omega))
  by_cases hv2 : a1 = 2
  · exact G_tableIn (off := 75) (tgt := 76) dX6_count_1 h1 (by omega) (by omega) (by rw [hv2]; rfl) (by decide) (k76 (by omega))
  by_cases hv3 : a1 = 3
  · exact G_tableIn (off := 83) (tgt := 84) dX6_count_1 h1 (by omega) (by omega) (by rw [hv3]; rfl) (by decide) (k84 (by omega))
  by_cases hv4 : a1 = 4
  · exact G_tableIn (off := 97) (tgt := 98) dX6_count_1 h1 (by omega) (by omega) (by rw [hv4]; rfl) (by decide) (k98 (by omega))
  by_cases hv5 : a1 = 5
  · exact G_tableIn (off := 108) (tgt := 109) dX6_count_1 h1 (by omega) (by omega) (by rw [hv5]; rfl) (by decide) (k109 (by omega))
  by_cases hv6 : a1 = 6
  · exact G_tableIn (off := 119) (tgt := 120) dX6_count_1 h1 (by omega) (by omega) (by rw [hv6]; rfl) (by decide) (k120 (by omega))
  by_cases hv7 : a1 = 7
  · exact G_tableIn (off := 127) (tgt := 128) dX6_count_1 h1 (by omega) (by omega) (by rw [hv7]; rfl) (by decide) (k128 (by omega))
  by_cases hv8 : a1 = 8
  · exact G_tableIn (off := 135) (tgt := 136) dX6_count_1 h1 (by omega) (by omega) (by rw [hv8]; rfl) (by decide) (k136 (by omega))
  by_cases hv9 : a1 = 9
  · exact G_tableIn (off := 143) (tgt := 144) dX6_count_1 h1 (by omega) (by omega) (by rw [hv9]; rfl) (by decide) (k144 (by omega))
  by_cases hv10 : a1 = 10
  · exact G_tableIn (off := 151) (tgt := 152) dX6_count_1 h1 (by omega) (by omega) (by rw [hv10]; rfl) (by decide) (k152 (by omega))
  exact absurd hq (by omega)
theorem k_X6_count_60 {Γ : Gm} {Ret : Option Value → Wd → Prop} {p0 q1 : Nat} {o1 : Option Value} {w : Wd} (kr : Ret (some (vI (wI w q1 5))) w) (h1 : sh w p0 = some (.inr 6) := by assumption) (h2 : wR w p0 2 = vR q1 := by assumption) (h3 : sh w q1 = some (.inr 3) := by assumption) : G Γ m_X6_count Ret 0 0 60 [some (vR p0), o1] [] w := by
  refine G_aload_n dX6_count_60 rfl ?_
  refine G_getR dX6_count_61 fl_RX6_16 h1 rfl h2 ?_
  refine G_getI dX6_count_64 fl_RX6_96 h3 rfl ?_
  exact G_reti dX6_count_67 trivial ⟨rfl, Nat.le_of_ble_eq_true rfl⟩ kr
theorem k_X6_count_68 {Γ : Gm} {Ret : Option Value → Wd → Prop} {p0 q1 : Nat} {o1 : Option Value} {w : Wd} (kr : Ret (some (vI (wI w q1 2))) w) (h1 : sh w p0 = some (.inr 6) := by assumption) (h2 : wR w p0 4 = vR q1 := by assumption) (h3 : sh w q1 = some (.inr 0) := by assumption) : G Γ m_X6_count Ret 0 0 68 [some (vR p0), o1] [] w := by
  refine G_aload_n dX6_count_68 rfl ?_
  refine G_getR dX6_count_69 fl_RX6_26 h1 rfl h2 ?_
  refine G_getI dX6_count_72 fl_RX6_281 h3 rfl ?_
  exact G_reti dX6_count_75 trivial ⟨rfl, Nat.le_of_ble_eq_true rfl⟩ kr
theorem k_X6_count_76 {Γ : Gm} {Ret : Option Value → Wd → Prop} {p0 q1 : Nat} {o1 : Option Value} {w : Wd} (kr : Ret (some (vI (wI w q1 4))) w) (h1 : sh w p0 = some (.inr 6) := by assumption) (h2 : wR w p0 4 = vR q1 := by assumption) (h3 : sh w q1 = some (.inr 0) := by assumption) : G Γ m_X6_count Ret 0 0 76 [some (vR p0), o1] [] w := by
  refine G_aload_n dX6_count_76 rfl ?_
  refine G_getR dX6_count_77 fl_RX6_26 h1 rfl h2 ?_
  refine G_getI dX6_count_80 fl_RX6_239 h3 rfl ?_
  exact G_reti dX6_count_83 trivial ⟨rfl, Nat.le_of_ble_eq_true rfl⟩ kr
theorem k_X6_count_84 {Γ : Gm} {Ret : Option Value → Wd → Prop} {p0 q1 : Nat} {o1 : Option Value} {w : Wd} (kr : Ret (some (vI (max 0 ((wI w q1 2) - 1)))) w) (h1 : sh w p0 = some (.inr 6) := by assumption) (h2 : wR w p0 4 = vR q1 := by assumption) (h3 : sh w q1 = some (.inr 0) := by assumption) (h4 : sm ((wI w q1 2) - 1) := by omega) : G Γ m_X6_count Ret 0 0 84 [some (vR p0), o1] [] w := by
  refine G_const dX6_count_84 ?_
  refine G_aload_n dX6_count_85 rfl ?_
  refine G_getR dX6_count_86 fl_RX6_26 h1 rfl h2 ?_
  refine G_getI dX6_count_89 fl_RX6_281 h3 rfl ?_
  refine G_const dX6_count_92 ?_
  refine G_isub dX6_count_93 ?_
  refine G_mmax dX6_count_94 tb_705 tb_179 tb_44 tb_180 (by decide) h4 ⟨Nat.le_of_ble_eq_true rfl, Nat.le_of_ble_eq_true rfl⟩ ⟨Nat.le_of_ble_eq_true rfl, Nat.le_of_ble_eq_true rfl⟩ ?_
  exact G_reti dX6_count_97 trivial ⟨rfl, Nat.le_of_ble_eq_true rfl⟩ kr
theorem k_X6_count_98 {Γ : Gm} {Ret : Option Value → Wd → Prop} {z2 : Int} {p0 q1 : Nat} {o1 : Option Value} {w : Wd} (c4 : SpP Γ m_J6_bitCount_0f7a4 [vI (wI w q1 5)] w z2) (kr : Ret (some (vI z2)) w) (h1 : sh w p0 = some (.inr 6) := by assumption) (h2 : wR w p0 4 = vR q1 := by assumption) (h3 : sh w q1 = some (.inr 0) := by assumption) : G Γ m_X6_count Ret 0 0 98 [some (vR p0), o1] [] w := by
  refine G_aload_n dX6_count_98 rfl ?_
  refine G_getR dX6_count_99 fl_RX6_26 h1 rfl h2 ?_
  refine G_getI dX6_count_102 fl_RX6_287 h3 rfl ?_
  refine G_SP (as := [vI (wI w q1 5)]) (st := []) n0_J6_bitCount_0f7a4 dX6_count_105 ml_RX6_269 mc_J6_bitCount_0f7a4 rfl ⟨by decide, ⟨Nat.le_of_ble_eq_true rfl, Nat.le_of_ble_eq_true rfl⟩, Nat.le_of_ble_eq_true rfl⟩ c4 ?_
  exact G_reti dX6_count_108 trivial ⟨rfl, Nat.le_of_ble_eq_true rfl⟩ kr
theorem k_X6_count_109 {Γ : Gm} {Ret : Option Value → Wd → Prop} {z2 : Int} {p0 q1 : Nat} {o1 : Option Value} {w : Wd} (c4 : SpP Γ m_J6_bitCount_0f7a4 [vI (wI w q1 6)] w z2) (kr : Ret (some (vI z2)) w) (h1 : sh w p0 = some (.inr 6) := by assumption) (h2 : wR w p0 4 = vR q1 := by assumption) (h3 : sh w q1 = some (.inr 0) := by assumption) : G Γ m_X6_count Ret 0 0 109 [some (vR p0), o1] [] w := by
  refine G_aload_n dX6_count_109 rfl ?_
  refine G_getR dX6_count_110 fl_RX6_26 h1 rfl h2 ?_
  refine G_getI dX6_count_113 fl_RX6_266 h3 rfl ?_
  refine G_SP (as := [vI (wI w q1 6)]) (st := []) n0_J6_bitCount_0f7a4 dX6_count_116 ml_RX6_269 mc_J6_bitCount_0f7a4 rfl ⟨by decide, ⟨Nat.le_of_ble_eq_true rfl, Nat.le_of_ble_eq_true rfl⟩, Nat.le_of_ble_eq_true rfl⟩ c4 ?_
  exact G_reti dX6_count_119 trivial ⟨rfl, Nat.le_of_ble_eq_true rfl⟩ kr
theorem k_X6_count_120 {Γ : Gm} {Ret : Option Value → Wd → Prop} {p0 q1 : Nat} {o1 : Option Value} {w : Wd} (kr : Ret (some (vI (wI w q1 7))) w) (h1 : sh w p0 = some (.inr 6) := by assumption) (h2 : wR w p0 4 = vR q1 := by assumption) (h3 : sh w q1 = some (.inr 0) := by assumption) : G Γ m_X6_count Ret 0 0 120 [some (vR p0), o1] [] w := by
  refine G_aload_n dX6_count_120 rfl ?_
  refine G_getR dX6_count_121 fl_RX6_26 h1 rfl h2 ?_
  refine G_getI dX6_count_124 fl_RX6_163 h3 rfl ?_
  exact G_reti dX6_count_127 trivial ⟨rfl, Nat.le_of_ble_eq_true rfl⟩ kr
theorem k_X6_count_128 {Γ : Gm} {Ret : Option Value → Wd → Prop} {p0 q1 : Nat} {o1 : Option Value} {w : Wd} (kr : Ret (some (vI (wI w q1 2))) w) (h1 : sh w p0 = some (.inr 6) := by assumption) (h2 : wR w p0 8 = vR q1 := by assumption) (h3 : sh w q1 = some (.inr 5) := by assumption) : G Γ m_X6_count Ret 0 0 128 [some (vR p0), o1] [] w := by
  refine G_aload_n dX6_count_128 rfl ?_
  refine G_getR dX6_count_129 fl_RX6_48 h1 rfl h2 ?_
  refine G_getI dX6_count_132 fl_RX6_219 h3 rfl ?_
  exact G_reti dX6_count_135 trivial ⟨rfl, Nat.le_of_ble_eq_true rfl⟩ kr
theorem k_X6_count_136 {Γ : Gm} {Ret : Option Value → Wd → Prop} {p0 q1 : Nat} {o1 : Option Value} {w : Wd} (kr : Ret (some (vI (wI w q1 2))) w) (h1 : sh w p0 = some (.inr 6) := by assumption) (h2 : wR w p0 6 = vR q1 := by assumption) (h3 : sh w q1 = some (.inr 4) := by assumption) : G Γ m_X6_count Ret 0 0 136 [some (vR p0), o1] [] w := by
  refine G_aload_n dX6_count_136 rfl ?_
  refine G_getR dX6_count_137 fl_RX6_38 h1 rfl h2 ?_
  refine G_getI dX6_count_140 fl_RX6_174 h3 rfl ?_
  exact G_reti dX6_count_143 trivial ⟨rfl, Nat.le_of_ble_eq_true rfl⟩ kr
theorem k_X6_count_144 {Γ : Gm} {Ret : Option Value → Wd → Prop} {p0 q1 : Nat} {o1 : Option Value} {w : Wd} (kr : Ret (some (vI (wI w q1 2))) w) (h1 : sh w p0 = some (.inr 6) := by assumption) (h2 : wR w p0 7 = vR q1 := by assumption) (h3 : sh w q1 = some (.inr 4) := by assumption) : G Γ m_X6_count Ret 0 0 144 [some (vR p0), o1] [] w := by
  refine G_aload_n dX6_count_144 rfl ?_
  refine G_getR dX6_count_145 fl_RX6_42 h1 rfl h2 ?_
  refine G_getI dX6_count_148 fl_RX6_174 h3 rfl ?_
  exact G_reti dX6_count_151 trivial ⟨rfl, Nat.le_of_ble_eq_true rfl⟩ kr
theorem k_X6_count_152 {Γ : Gm} {Ret : Option Value → Wd → Prop} {p0 : Nat} {o1 : Option Value} {w : Wd} (kr : Ret (some (vI (wI w p0 1))) w) (h1 : sh w p0 = some (.inr 6) := by assumption) : G Γ m_X6_count Ret 0 0 152 [some (vR p0), o1] [] w := by
  refine G_aload_n dX6_count_152 rfl ?_
  refine G_getI dX6_count_153 fl_RX6_93 h1 rfl ?_
  exact G_reti dX6_count_156 trivial ⟨rfl, Nat.le_of_ble_eq_true rfl⟩ kr
theorem k_X6_count_157 {Γ : Gm} {Ret : Option Value → Wd → Prop} {o0 o1 : Option Value} {w : Wd} (kr : Ret (some (vI (-1))) w) : G Γ m_X6_count Ret 0 0 157 [o0, o1] [] w := by
  refine G_const dX6_count_157 ?_
  exact G_reti dX6_count_158 trivial ⟨rfl, Nat.le_of_ble_eq_true rfl⟩ kr
theorem k_X6_within_0 {Γ : Gm} {Ret : Option Value → Wd → Prop} {a0 a1 a2 : Int} {w : Wd} (kt : a0 < a1 → G Γ m_X6_within Ret 0 0 14 [some (vI a0), some (vI a1), some (vI a2)] [] w) (kf : ¬ (a0 < a1) → G Γ m_X6_within Ret 0 0 5 [some (vI a0), some (vI a1), some (vI a2)] [] w) (h1 : sm a0 := by omega) (h2 : sm a1 := by omega) : G Γ m_X6_within Ret 0 0 0 [some (vI a0), some (vI a1), some (vI a2)] [] w := by
  refine G_iload_n dX6_within_0 rfl ?_
  refine G_iload_n dX6_within_1 rfl ?_
  exact G_icmp_lt dX6_within_2 (by decide) h1 h2 kt kf
theorem k_X6_within_14 {Γ : Gm} {Ret : Option Value → Wd → Prop} {o0 o1 o2 : Option Value} {w : Wd} (kr : Ret (some (vI 0)) w) : G Γ m_X6_within Ret 0 0 14 [o0, o1, o2] [] w := by
  refine G_const dX6_within_14 ?_
  exact G_reti dX6_within_15 (Or.inl rfl) ⟨rfl, Nat.le_of_ble_eq_true rfl⟩ kr
theorem k_X6_within_5 {Γ : Gm} {Ret : Option Value → Wd → Prop} {a0 a2 : Int} {o1 : Option Value} {w : Wd} (kt : a2 < a0 → G Γ m_X6_within Ret 0 0 14 [some (vI a0), o1, some (vI a2)] [] w) (kf : ¬ (a2 < a0) → G Γ m_X6_within Ret 0 0 10 [some (vI a0), o1, some (vI a2)] [] w) (h1 : sm a0 := by omega) (h2 : sm a2 := by omega) : G Γ m_X6_within Ret 0 0 5 [some (vI a0), o1, some (vI a2)] [] w := by
  refine G_iload_n dX6_within_5 rfl ?_
  refine G_iload_n dX6_within_6 rfl ?_
  exact G_icmp_gt dX6_within_7 (by decide) h1 h2 kt kf
theorem k_X6_within_10 {Γ : Gm} {Ret : Option Value → Wd → Prop} {o0 o1 o2 : Option Value} {w : Wd} (kr : Ret (some (vI 1)) w) : G Γ m_X6_within Ret 0 0 10 [o0, o1, o2] [] w := by
  refine G_const dX6_within_10 ?_
  refine G_goto dX6_within_11 (tgt := 15) (by decide) ?_
  exact G_reti dX6_within_15 (Or.inr rfl) ⟨rfl, Nat.le_of_ble_eq_true rfl⟩ kr
theorem k_X6_isWall_0 {Γ : Gm} {Ret : Option Value → Wd → Prop} {a0 z1 : Int} {w : Wd} (c1 : SpP Γ m_X6_within [vI a0, vI 0, vI 3] w z1) (kr : Ret (some (vI z1)) w) (h2 : z1 = 0 ∨ z1 = 1 := by omega) : G Γ m_X6_isWall Ret 0 0 0 [some (vI a0)] [] w := by
  refine G_iload_n dX6_isWall_0 rfl ?_
  refine G_const dX6_isWall_1 ?_
  refine G_const dX6_isWall_2 ?_
  refine G_SP (as := [vI a0, vI 0, vI 3]) (st := []) n0_X6_within dX6_isWall_3 ml_RX6_89 mc_X6_within rfl ⟨by decide, ⟨Nat.le_of_ble_eq_true rfl, Nat.le_of_ble_eq_true rfl⟩, Nat.le_of_ble_eq_true rfl⟩ c1 ?_
  exact G_reti dX6_isWall_6 (by rcases h2 with q | q <;> rw [q]; exact Or.inl rfl; exact Or.inr rfl) ⟨rfl, Nat.le_of_ble_eq_true rfl⟩ kr
theorem k_X6_at_0 {Γ : Gm} {Ret : Option Value → Wd → Prop} {a1 : Int} {p0 : Nat} {w : Wd} (kt : a1 < 0 → G Γ m_X6_at Ret 0 0 16 [some (vR p0), some (vI a1)] [] w) (kf : ¬ (a1 < 0) → G Γ m_X6_at Ret 0 0 4 [some (vR p0), some (vI a1)] [] w) (h1 : sm a1 := by omega) : G Γ m_X6_at Ret 0 0 0 [some (vR p0), some (vI a1)] [] w := by
  refine G_iload_n dX6_at_0 rfl ?_
  exact G_if_lt dX6_at_1 (by decide) h1 kt kf
theorem k_X6_at_16 {Γ : Gm} {Ret : Option Value → Wd → Prop} {o0 o1 : Option Value} {w : Wd} (kr : Ret (some (vI 0)) w) : G Γ m_X6_at Ret 0 0 16 [o0, o1] [] w := by
  refine G_const dX6_at_16 ?_
  exact G_reti dX6_at_17 trivial ⟨rfl, Nat.le_of_ble_eq_true rfl⟩ kr
theorem k_X6_at_4 {Γ : Gm} {Ret : Option Value → Wd → Prop} {a1 : Int} {p0 n1 : Nat} {w : Wd} (kt : (n1 : Int) ≤ a1 → G Γ m_X6_at Ret 0 0 16 [some (vR p0), some (vI a1)] [] w) (kf : ¬ ((n1 : Int) ≤ a1) → G Γ m_X6_at Ret 0 0 10 [some (vR p0), some (vI a1)] [] w) (h1 : sh w p0 = some (.inl (0, n1)) := by assumption) (h2 : sm a1 := by omega) (h3 : sm (n1 : Int) := by omega) : G Γ m_X6_at Ret 0 0 4 [some (vR p0), some (vI a1)] [] w := by
  refine G_iload_n dX6_at_4 rfl ?_
  refine G_aload_n dX6_at_5 rfl ?_
  refine G_alen dX6_at_6 h1 (by decide) ?_
  exact G_icmp_ge dX6_at_7 (by decide) h2 h3 kt kf
theorem k_X6_at_10 {Γ : Gm} {Ret : Option Value → Wd → Prop} {a1 : Int} {p0 n1 : Nat} {w : Wd} (kr : Ret (some (vI (wI w p0 a1))) w) (h1 : sh w p0 = some (.inl (0, n1)) := by assumption) (h2 : (0 : Int) ≤ a1 ∧ a1 < (n1 : Int) := by omega) (h3 : n1 < 2147483648 := by omega) : G Γ m_X6_at Ret 0 0 10 [some (vR p0), some (vI a1)] [] w := by
  refine G_aload_n dX6_at_10 rfl ?_
  refine G_iload_n dX6_at_11 rfl ?_
  refine G_iald dX6_at_12 h1 h2 h3 ?_
  refine G_goto dX6_at_13 (tgt := 17) (by decide) ?_
  exact G_reti dX6_at_17 trivial ⟨rfl, Nat.le_of_ble_eq_true rfl⟩ kr
theorem k_X6_put_0 {Γ : Gm} {Ret : Option Value → Wd → Prop} {a1 a2 : Int} {p0 : Nat} {w : Wd} (kt : a1 < 0 → G Γ m_X6_put Ret 0 0 14 [some (vR p0), some (vI a1), some (vI a2)] [] w) (kf : ¬ (a1 < 0) → G Γ m_X6_put Ret 0 0 4 [some (vR p0), some (vI a1), some (vI a2)] [] w) (h1 : sm a1 := by omega) : G Γ m_X6_put Ret 0 0 0 [some (vR p0), some (vI a1), some (vI a2)] [] w := by
  refine G_iload_n dX6_put_0 rfl ?_
  exact G_if_lt dX6_put_1 (by decide) h1 kt kf
theorem k_X6_put_14 {Γ : Gm} {Ret : Option Value → Wd → Prop} {o0 o1 o2 : Option Value} {w : Wd} (kr : Ret none w) : G Γ m_X6_put Ret 0 0 14 [o0, o1, o2] [] w := by
  exact G_retv dX6_put_14 trivial ⟨rfl, Nat.le_of_ble_eq_true rfl⟩ kr
theorem k_X6_put_4 {Γ : Gm} {Ret : Option Value → Wd → Prop} {a1 a2 : Int} {p0 n1 : Nat} {w : Wd} (kt : (n1 : Int) ≤ a1 → G Γ m_X6_put Ret 0 0 14 [some (vR p0), some (vI a1), some (vI a2)] [] w) (kf : ¬ ((n1 : Int) ≤ a1) → G Γ m_X6_put Ret 0 0 10 [some (vR p0), some (vI a1), some (vI a2)] [] w) (h1 : sh w p0 = some (.inl (0, n1)) := by assumption) (h2 : sm a1 := by omega) (h3 : sm (n1 : Int) := by omega) : G Γ m_X6_put Ret 0 0 4 [some (vR p0), some (vI a1), some (vI a2)] [] w := by
  refine G_iload_n dX6_put_4 rfl ?_
  refine G_aload_n dX6_put_5 rfl ?_
  refine G_alen dX6_put_6 h1 (by decide) ?_
  exact G_icmp_ge dX6_put_7 (by decide) h2 h3 kt kf
theorem k_X6_put_10 {Γ : Gm} {Ret : Option Value → Wd → Prop} {a1 a2 : Int} {p0 n1 : Nat} {w : Wd} (kr : Ret none (stI w p0 a1 a2)) (h1 : sh w p0 = some (.inl (0, n1)) := by assumption) (h2 : (0 : Int) ≤ a1 ∧ a1 < (n1 : Int) := by omega) (h3 : n1 < 2147483648 := by omega) : G Γ m_X6_put Ret 0 0 10 [some (vR p0), some (vI a1), some (vI a2)] [] w := by
  refine G_aload_n dX6_put_10 rfl ?_
  refine G_iload_n dX6_put_11 rfl ?_
  refine G_iload_n dX6_put_12 rfl ?_
  refine G_iast dX6_put_13 h1 h2 h3 ?_
  exact G_retv dX6_put_14 trivial ⟨rfl, Nat.le_of_ble_eq_true rfl⟩ kr
theorem k_X6_copy_0 {Γ : Gm} {Ret : Option Value → Wd → Prop} {p0 p1 : Nat} {w : Wd} (km : G Γ m_X6_copy Ret 0 0 2 [some (vR p0), some (vR p1), some (vI 0)] [] w) : G Γ m_X6_copy Ret 0 0 0 [some (vR p0), some (vR p1), none] [] w := by
  refine G_const dX6_copy_0 ?_
  refine G_istore_n dX6_copy_1 (by decide) rfl ?_
  exact km
theorem k_X6_copy_2 {Γ : Gm} {Ret : Option Value → Wd → Prop} {a2 : Int} {p0 p1 n1 : Nat} {w : Wd} (kt : (n1 : Int) ≤ a2 → G Γ m_X6_copy Ret 0 0 26 [some (vR p0), some (vR p1), some (vI a2)] [] w) (kf : ¬ ((n1 : Int) ≤ a2) → G Γ m_X6_copy Ret 0 0 8 [some (vR p0), some (vR p1), some (vI a2)] [] w) (h1 : sh w p0 = some (.inl (0, n1)) := by assumption) (h2 : sm a2 := by omega) (h3 : sm (n1 : Int) := by omega) : G Γ m_X6_copy Ret 0 0 2 [some (vR p0), some (vR p1), some (vI a2)] [] w := by
  refine G_iload_n dX6_copy_2 rfl ?_
  refine G_aload_n dX6_copy_3 rfl ?_
  refine G_alen dX6_copy_4 h1 (by decide) ?_
  exact G_icmp_ge dX6_copy_5 (by decide) h2 h3 kt kf
theorem k_X6_copy_26 {Γ : Gm} {Ret : Option Value → Wd → Prop} {o0 o1 o2 : Option Value} {w : Wd} (kr : Ret none w) : G Γ m_X6_copy Ret 0 0 26 [o0, o1, o2] [] w := by
  exact G_retv dX6_copy_26 trivial ⟨rfl, Nat.le_of_ble_eq_true rfl⟩ kr
theorem k_X6_copy_8 {Γ : Gm} {Ret : Option Value → Wd → Prop} {a2 : Int} {p0 p1 n1 : Nat} {w : Wd} (kt : (n1 : Int) ≤ a2 → G Γ m_X6_copy Ret 0 0 26 [some (vR p0), some (vR p1), some (vI a2)] [] w) (kf : ¬ ((n1 : Int) ≤ a2) → G Γ m_X6_copy Ret 0 0 14 [some (vR p0), some (vR p1), some (vI a2)] [] w) (h1 : sh w p1 = some (.inl (0, n1)) := by assumption) (h2 : sm a2 := by omega) (h3 : sm (n1 : Int) := by omega) : G Γ m_X6_copy Ret 0 0 8 [some (vR p0), some (vR p1), some (vI a2)] [] w := by
  refine G_iload_n dX6_copy_8 rfl ?_
  refine G_aload_n dX6_copy_9 rfl ?_
  refine G_alen dX6_copy_10 h1 (by decide) ?_
  exact G_icmp_ge dX6_copy_11 (by decide) h2 h3 kt kf
theorem k_X6_copy_14 {Γ : Gm} {Ret : Option Value → Wd → Prop} {a2 : Int} {p0 p1 n1 n2 : Nat} {w : Wd} (km : G Γ m_X6_copy Ret 0 0 2 [some (vR p0), some (vR p1), some (vI (a2 + 1))] [] (stI w p1 a2 (wI w p0 a2))) (h1 : sh w p0 = some (.inl (0, n1)) := by assumption) (h2 : (0 : Int) ≤ a2 ∧ a2 < (n1 : Int) := by omega) (h3 : n1 < 2147483648 := by omega) (h4 : sh w p1 = some (.inl (0, n2)) := by assumption) (h5 : (0 : Int) ≤ a2 ∧ a2 < (n2 : Int) := by omega) (h6 : n2 < 2147483648 := by omega) : G Γ m_X6_copy Ret 0 0 14 [some (vR p0), some (vR p1), some (vI a2)] [] w := by
  refine G_aload_n dX6_copy_14 rfl ?_
  refine G_iload_n dX6_copy_15 rfl ?_
  refine G_aload_n dX6_copy_16 rfl ?_
  refine G_iload_n dX6_copy_17 rfl ?_
  refine G_iald dX6_copy_18 h1 h2 h3 ?_
  refine G_iast dX6_copy_19 h4 h5 h6 ?_
  refine G_iinc dX6_copy_20 (by decide) rfl rfl ?_
  refine G_goto dX6_copy_23 (tgt := 2) (by decide) ?_
  exact km
theorem k_X6_power_0 {Γ : Gm} {Ret : Option Value → Wd → Prop} {a0 a1 : Int} {w : Wd} (km : G Γ m_X6_power Ret 0 0 4 [some (vI a0), some (vI a1), some (vI 1), some (vI 0)] [] w) : G Γ m_X6_power Ret 0 0 0 [some (vI a0), some (vI a1), none, none] [] w := by
  refine G_const dX6_power_0 ?_
  refine G_istore_n dX6_power_1 (by decide) rfl ?_
  refine G_const dX6_power_2 ?_
  refine G_istore_n dX6_power_3 (by decide) rfl ?_
  exact km
theorem k_X6_power_4 {Γ : Gm} {Ret : Option Value → Wd → Prop} {a0 a1 a2 a3 : Int} {w : Wd} (kt : a1 ≤ a3 → G Γ m_X6_power Ret 0 0 19 [some (vI a0), some (vI a1), some (vI a2), some (vI a3)] [] w) (kf : ¬ (a1 ≤ a3) → G Γ m_X6_power Ret 0 0 9 [some (vI a0), some (vI a1), some (vI a2), some (vI a3)] [] w) (h1 : sm a3 := by omega) (h2 : sm a1 := by omega) : G Γ m_X6_power Ret 0 0 4 [some (vI a0), some (vI a1), some (vI a2), some (vI a3)] [] w := by
  refine G_iload_n dX6_power_4 rfl ?_
  refine G_iload_n dX6_power_5 rfl ?_
  exact G_icmp_ge dX6_power_6 (by decide) h1 h2 kt kf
theorem k_X6_power_19 {Γ : Gm} {Ret : Option Value → Wd → Prop} {a2 : Int} {o0 o1 o3 : Option Value} {w : Wd} (kr : Ret (some (vI a2)) w) : G Γ m_X6_power Ret 0 0 19 [o0, o1, some (vI a2), o3] [] w := by
  refine G_iload_n dX6_power_19 rfl ?_
  exact G_reti dX6_power_20 trivial ⟨rfl, Nat.le_of_ble_eq_true rfl⟩ kr
theorem k_X6_power_9 {Γ : Gm} {Ret : Option Value → Wd → Prop} {a0 a1 a2 a3 : Int} {w : Wd} (km : G Γ m_X6_power Ret 0 0 4 [some (vI a0), some (vI a1), some (vI (a2 * a0)), some (vI (a3 + 1))] [] w) : G Γ m_X6_power Ret 0 0 9 [some (vI a0), some (vI a1), some (vI a2), some (vI a3)] [] w := by
  refine G_iload_n dX6_power_9 rfl ?_
  refine G_iload_n dX6_power_10 rfl ?_
  refine G_imul dX6_power_11 ?_
  refine G_istore_n dX6_power_12 (by decide) rfl ?_
  refine G_iinc dX6_power_13 (by decide) rfl rfl ?_
  refine G_goto dX6_power_16 (tgt := 4) (by decide) ?_
  exact km
theorem k_X6_commonDivisor_0 {Γ : Gm} {Ret : Option Value → Wd → Prop} {a0 a1 : Int} {w : Wd} (km : G Γ m_X6_commonDivisor Ret 0 0 7 [some (vI a0), some (vI a1), some (vI a0), some (vI a1), some (vI 0), none] [] w) : G Γ m_X6_commonDivisor Ret 0 0 0 [some (vI a0), some (vI a1), none, none, none, none] [] w := by
  refine G_iload_n dX6_commonDivisor_0 rfl ?_
  refine G_istore_n dX6_commonDivisor_1 (by decide) rfl ?_
  refine G_iload_n dX6_commonDivisor_2 rfl ?_
  refine G_istore_n dX6_commonDivisor_3 (by decide) rfl ?_
  refine G_const dX6_commonDivisor_4 ?_
  refine G_istore dX6_commonDivisor_5 (by decide) rfl ?_
  exact km
theorem k_X6_commonDivisor_7 {Γ : Gm} {Ret : Option Value → Wd → Prop} {a2 a3 a4 : Int} {o0 o1 o5 : Option Value} {w : Wd} (kt : 100 ≤ a4 → G Γ m_X6_commonDivisor Ret 0 0 34 [o0, o1, some (vI a2), some (vI a3), some (vI a4), o5] [] w) (kf : ¬ (100 ≤ a4) → G Γ m_X6_commonDivisor Ret 0 0 14 [o0, o1, some (vI a2), some (vI a3), some (vI a4), o5] [] w) (h1 : sm a4 := by omega) : G Γ m_X6_commonDivisor Ret 0 0 7 [o0, o1, some (vI a2), some (vI a3), some (vI a4), o5] [] w := by
  refine G_iload dX6_commonDivisor_7 rfl ?_
  refine G_bipush dX6_commonDivisor_9 (by decide +kernel) ?_
  exact G_icmp_ge dX6_commonDivisor_11 (by decide) h1 (by decide) kt kf
theorem k_X6_commonDivisor_34 {Γ : Gm} {Ret : Option Value → Wd → Prop} {a2 : Int} {o0 o1 o3 o4 o5 : Option Value} {w : Wd} (kr : Ret (some (vI a2)) w) : G Γ m_X6_commonDivisor Ret 0 0 34 [o0, o1, some (vI a2), o3, o4, o5] [] w := by
  refine G_iload_n dX6_commonDivisor_34 rfl ?_
  exact G_reti dX6_commonDivisor_35 trivial ⟨rfl, Nat.le_of_ble_eq_true rfl⟩ kr
theorem k_X6_commonDivisor_14 {Γ : Gm} {Ret : Option Value → Wd → Prop} {a2 a3 a4 : Int} {o0 o1 o5 : Option Value} {w : Wd} (kt : a3 = 0 → G Γ m_X6_commonDivisor Ret 0 0 34 [o0, o1, some (vI a2), some (vI a3), some (vI a4), o5] [] w) (kf : ¬ (a3 = 0) → G Γ m_X6_commonDivisor Ret 0 0 18 [o0, o1, some (vI a2), some (vI a3), some (vI a4), o5] [] w) (h1 : sm a3 := by omega) : G Γ m_X6_commonDivisor Ret 0 0 14 [o0, o1, some (vI a2), some (vI a3), some (vI a4), o5] [] w := by
  refine G_iload_n dX6_commonDivisor_14 rfl ?_
  exact G_if_eq dX6_commonDivisor_15 (by decide) h1 kt kf
theorem k_X6_commonDivisor_18 {Γ : Gm} {Ret : Option Value → Wd → Prop} {a2 a3 a4 : Int} {o0 o1 o5 : Option Value} {w : Wd} (km : G Γ m_X6_commonDivisor Ret 0 0 7 [o0, o1, some (vI a3), some (vI (Int.tmod a2 a3)), some (vI (a4 + 1)), some (vI (Int.tmod a2 a3))] [] w) (h1 : sm a2 := by omega) (h2 : sm a3 := by omega) (h3 : a3 ≠ 0 := by omega) (h4 : a3 ≠ -1 := by omega) (h5 : nl1 [o1] 1 = true := by rfl) : G Γ m_X6_commonDivisor Ret 0 0 18 [o0, o1, some (vI a2), some (vI a3), some (vI a4), o5] [] w := by
  refine G_iload_n dX6_commonDivisor_18 rfl ?_
  refine G_iload_n dX6_commonDivisor_19 rfl ?_
  refine G_irem dX6_commonDivisor_20 h1 h2 h3 h4 ?_
  refine G_istore dX6_commonDivisor_21 (by decide) rfl ?_
  refine G_iload_n dX6_commonDivisor_23 rfl ?_
  refine G_istore_n dX6_commonDivisor_24 (by decide) (by simpa [nl1] using h5) ?_
  refine G_iload dX6_commonDivisor_25 rfl ?_
  refine G_istore_n dX6_commonDivisor_27 (by decide) rfl ?_
  refine G_iinc dX6_commonDivisor_28 (by decide) rfl rfl ?_
  refine G_goto dX6_commonDivisor_31 (tgt := 7) (by decide) ?_
  exact km
theorem k_X6_waysToWave_0 {Γ : Gm} {Ret : Option Value → Wd → Prop} {a0 a1 a2 : Int} {w : Wd} (km : G Γ m_X6_waysToWave Ret 0 0 8 [some (vI a0), some (vI a1), some (vI a2), some (vI 0), some (vI 1), some (vI 0)] [] w) : G Γ m_X6_waysToWave Ret 0 0 0 [some (vI a0), some (vI a1), some (vI a2), none, none, none] [] w := by
  refine G_const dX6_waysToWave_0 ?_
  refine G_istore_n dX6_waysToWave_1 (by decide) rfl ?_
  refine G_const dX6_waysToWave_2 ?_
  refine G_istore dX6_waysToWave_3 (by decide) rfl ?_
  refine G_const dX6_waysToWave_5 ?_
  refine G_istore dX6_waysToWave_6 (by decide) rfl ?_
  exact km
theorem k_X6_waysToWave_8 {Γ : Gm} {Ret : Option Value → Wd → Prop} {a0 a1 a2 a3 a4 a5 : Int} {w : Wd} (kt : a1 < a5 → G Γ m_X6_waysToWave Ret 0 0 72 [some (vI a0), some (vI a1), some (vI a2), some (vI a3), some (vI a4), some (vI a5)] [] w) (kf : ¬ (a1 < a5) → G Γ m_X6_waysToWave Ret 0 0 14 [some (vI a0), some (vI a1), some (vI a2), some (vI a3), some (vI a4), some (vI a5)] [] w) (h1 : sm a5 := by omega) (h2 : sm a1 := by omega) : G Γ m_X6_waysToWave Ret 0 0 8 [some (vI a0), some (vI a1), some (vI a2), some (vI a3), some (vI a4), some (vI a5)] [] w := by
  refine G_iload dX6_waysToWave_8 rfl ?_
  refine G_iload_n dX6_waysToWave_10 rfl ?_
  exact G_icmp_gt dX6_waysToWave_11 (by decide) h1 h2 kt kf
theorem k_X6_waysToWave_72 {Γ : Gm} {Ret : Option Value → Wd → Prop} {a3 : Int} {o0 o1 o2 o4 o5 : Option Value} {w : Wd} (kr : Ret (some (vI a3)) w) : G Γ m_X6_waysToWave Ret 0 0 72 [o0, o1, o2, some (vI a3), o4, o5] [] w := by
  refine G_iload_n dX6_waysToWave_72 rfl ?_
  exact G_reti dX6_waysToWave_73 trivial ⟨rfl, Nat.le_of_ble_eq_true rfl⟩ kr
theorem k_X6_waysToWave_14 {Γ : Gm} {Ret : Option Value → Wd → Prop} {a0 a1 a2 a3 a4 a5 : Int} {w : Wd} (kt : 2 ≤ (max 0 (a0 - (2 * a5))) → G Γ m_X6_waysToWave Ret 0 0 52 [some (vI a0), some (vI a1), some (vI a2), some (vI a3), some (vI a4), some (vI a5)] [] w) (kf : ¬ (2 ≤ (max 0 (a0 - (2 * a5)))) → G Γ m_X6_waysToWave Ret 0 0 28 [some (vI a0), some (vI a1), some (vI a2), some (vI a3), some (vI a4), some (vI a5)] [] w) (h1 : sm (a0 - (2 * a5)) := by omega) (h2 : sm (max 0 (a0 - (2 * a5))) := by omega) : G Γ m_X6_waysToWave Ret 0 0 14 [some (vI a0), some (vI a1), some (vI a2), some (vI a3), some (vI a4), some (vI a5)] [] w := by
  refine G_const dX6_waysToWave_14 ?_
  refine G_iload_n dX6_waysToWave_15 rfl ?_
  refine G_const dX6_waysToWave_16 ?_
  refine G_iload dX6_waysToWave_17 rfl ?_
  refine G_imul dX6_waysToWave_19 ?_
  refine G_isub dX6_waysToWave_20 ?_
  refine G_mmax dX6_waysToWave_21 tb_705 tb_179 tb_44 tb_180 (by decide) h1 ⟨Nat.le_of_ble_eq_true rfl, Nat.le_of_ble_eq_true rfl⟩ ⟨Nat.le_of_ble_eq_true rfl, Nat.le_of_ble_eq_true rfl⟩ ?_
  refine G_const dX6_waysToWave_24 ?_
  exact G_icmp_ge dX6_waysToWave_25 (by decide) h2 (by decide) kt kf
theorem k_X6_waysToWave_52 {Γ : Gm} {Ret : Option Value → Wd → Prop} {a0 a1 a2 a3 a4 a5 : Int} {w : Wd} (km : G Γ m_X6_waysToWave Ret 0 0 8 [some (vI a0), some (vI a1), some (vI a2), some (vI a3), some (vI (Int.tdiv (a4 * (a1 - a5)) (a5 + 1))), some (vI (a5 + 1))] [] w) (h1 : sm (a4 * (a1 - a5)) := by omega) (h2 : sm (a5 + 1) := by omega) (h3 : (a5 + 1) ≠ 0 := by omega) (h4 : (a5 + 1) ≠ -1 := by omega) : G Γ m_X6_waysToWave Ret 0 0 52 [some (vI a0), some (vI a1), some (vI a2), some (vI a3), some (vI a4), some (vI a5)] [] w := by
  refine G_iload dX6_waysToWave_52 rfl ?_
  refine G_iload_n dX6_waysToWave_54 rfl ?_
  refine G_iload dX6_waysToWave_55 rfl ?_
  refine G_isub dX6_waysToWave_57 ?_
  refine G_imul dX6_waysToWave_58 ?_
  refine G_iload dX6_waysToWave_59 rfl ?_
  refine G_const dX6_waysToWave_61 ?_
  refine G_iadd dX6_waysToWave_62 ?_
  refine G_idiv dX6_waysToWave_63 h1 h2 h3 h4 ?_
  refine G_istore dX6_waysToWave_64 (by decide) rfl ?_
  refine G_iinc dX6_waysToWave_66 (by decide) rfl rfl ?_
  refine G_goto dX6_waysToWave_69 (tgt := 8) (by decide) ?_
  exact km
theorem k_X6_waysToWave_28 {Γ : Gm} {Ret : Option Value → Wd → Prop} {a0 a1 a2 a3 a4 a5 z1 z2 : Int} {w : Wd} (c1 : SpP Γ m_X6_power [vI a2, vI a5] w z1) (c2 : SpP Γ m_X6_power [vI (10 - a2), vI (a1 - a5)] w z2) (km : G Γ m_X6_waysToWave Ret 0 0 8 [some (vI a0), some (vI a1), some (vI a2), some (vI (a3 + ((a4 * z1) * z2))), some (vI (Int.tdiv (a4 * (a1 - a5)) (a5 + 1))), some (vI (a5 + 1))] [] w) (h3 : sm (a4 * (a1 - a5)) := by omega) (h4 : sm (a5 + 1) := by omega) (h5 : (a5 + 1) ≠ 0 := by omega) (h6 : (a5 + 1) ≠ -1 := by omega) : G Γ m_X6_waysToWave Ret 0 0 28 [some (vI a0), some (vI a1), some (vI a2), some (vI a3), some (vI a4), some (vI a5)] [] w := by
  refine G_iload_n dX6_waysToWave_28 rfl ?_
  refine G_iload dX6_waysToWave_29 rfl ?_
  refine G_iload_n dX6_waysToWave_31 rfl ?_
  refine G_iload dX6_waysToWave_32 rfl ?_
  refine G_SP (as := [vI a2, vI a5]) (st := [vI a4, vI a3]) n0_X6_power dX6_waysToWave_34 ml_RX6_250 mc_X6_power rfl ⟨by decide, ⟨Nat.le_of_ble_eq_true rfl, Nat.le_of_ble_eq_true rfl⟩, Nat.le_of_ble_eq_true rfl⟩ c1 ?_
  refine G_imul dX6_waysToWave_37 ?_
  refine G_bipush dX6_waysToWave_38 (by decide +kernel) ?_
  refine G_iload_n dX6_waysToWave_40 rfl ?_
  refine G_isub dX6_waysToWave_41 ?_
  refine G_iload_n dX6_waysToWave_42 rfl ?_
  refine G_iload dX6_waysToWave_43 rfl ?_
  refine G_isub dX6_waysToWave_45 ?_
  refine G_SP (as := [vI (10 - a2), vI (a1 - a5)]) (st := [vI (a4 * z1), vI a3]) n0_X6_power dX6_waysToWave_46 ml_RX6_250 mc_X6_power rfl ⟨by decide, ⟨Nat.le_of_ble_eq_true rfl, Nat.le_of_ble_eq_true rfl⟩, Nat.le_of_ble_eq_true rfl⟩ c2 ?_
  refine G_imul dX6_waysToWave_49 ?_
  refine G_iadd dX6_waysToWave_50 ?_
  refine G_istore_n dX6_waysToWave_51 (by decide) rfl ?_
  refine G_iload dX6_waysToWave_52 rfl ?_
  refine G_iload_n dX6_waysToWave_54 rfl ?_
  refine G_iload dX6_waysToWave_55 rfl ?_
  refine G_isub dX6_waysToWave_57 ?_
  refine G_imul dX6_waysToWave_58 ?_
  refine G_iload dX6_waysToWave_59 rfl ?_
  refine G_const dX6_waysToWave_61 ?_
  refine G_iadd dX6_waysToWave_62 ?_
  refine G_idiv dX6_waysToWave_63 h3 h4 h5 h6 ?_
  refine G_istore dX6_waysToWave_64 (by decide) rfl ?_
  refine G_iinc dX6_waysToWave_66 (by decide) rfl rfl ?_
  refine G_goto dX6_waysToWave_69 (tgt := 8) (by decide) ?_
  exact km
theorem k_X6_draw_0 {Γ : Gm} {Ret : Option Value → Wd → Prop} {a0 a1 : Int} {w : Wd} (kr : Ret (some (vI (Int.tdiv (Int.tmod ((((7919 * a0) + (6151 * a1)) + 1) * (((7919 * a0) + (6151 * a1)) + 1)) 65521) 2))) w) (h1 : sm a0 := by omega) (h2 : sm a1 := by omega) (h3 : sm8 ((((7919 * a0) + (6151 * a1)) + 1) * (((7919 * a0) + (6151 * a1)) + 1)) := by omega) (h4 : sm8 (Int.tmod ((((7919 * a0) + (6151 * a1)) + 1) * (((7919 * a0) + (6151 * a1)) + 1)) 65521) := by omega) : G Γ m_X6_draw Ret 0 0 0 [some (vI a0), some (vI a1), none, none] [] w := by
  refine G_ldc2 (n := 7919) dX6_draw_0 tb_720 ?_
  refine G_iload_n dX6_draw_3 rfl ?_
  refine G_i2l dX6_draw_4 h1 ?_
  refine G_lmul dX6_draw_5 ?_
  refine G_ldc2 (n := 6151) dX6_draw_6 tb_721 ?_
  refine G_iload_n dX6_draw_9 rfl ?_
  refine G_i2l dX6_draw_10 h2 ?_
  refine G_lmul dX6_draw_11 ?_
  refine G_ladd dX6_draw_12 ?_
  refine G_lconst (n := 1) dX6_draw_13 ?_
  refine G_ladd dX6_draw_14 ?_
  refine G_lstore_n dX6_draw_15 (by decide) rfl ?_
  refine G_lload_n dX6_draw_16 rfl ?_
  refine G_lload_n dX6_draw_17 rfl ?_
  refine G_lmul dX6_draw_18 ?_
  refine G_ldc2 (n := 65521) dX6_draw_19 tb_722 ?_
  refine G_lrem dX6_draw_22 h3 (by decide) (by decide) ?_
  refine G_ldc2 (n := 2) dX6_draw_23 tb_723 ?_
  refine G_ldiv dX6_draw_26 h4 (by decide) (by decide) ?_
  refine G_l2i dX6_draw_27 ?_
  exact G_reti dX6_draw_28 trivial ⟨rfl, Nat.le_of_ble_eq_true rfl⟩ kr
theorem k_X6_slackOf_0 {Γ : Gm} {Ret : Option Value → Wd → Prop} {a0 a1 a2 : Int} {w : Wd} (k28 : a0 = 0 → G Γ m_X6_slackOf Ret 0 0 28 [some (vI a0), some (vI a1), some (vI a2)] [] w) (k32 : a0 = 1 → G Γ m_X6_slackOf Ret 0 0 32 [some (vI a0), some (vI a1), some (vI a2)] [] w) (k34 : a0 = 2 → G Γ m_X6_slackOf Ret 0 0 34 [some (vI a0), some (vI a1), some (vI a2)] [] w) (kd : (a0 ≠ 0 ∧ a0 ≠ 1 ∧ a0 ≠ 2) → G Γ m_X6_slackOf Ret 0 0 38 [some (vI a0), some (vI a1), some (vI a2)] [] w) (h1 : sm a0 := by omega) : G Γ m_X6_slackOf Ret 0 0 0 [some (vI a0), some (vI a1), some (vI a2)] [] w := by
  refine G_iload_n dX6_slackOf_0 rfl ?_
  by_cases hq : a0 < 0 ∨ 2 < a0
  · exact G_tableOut dX6_slackOf_1 h1 hq (by decide) (kd (by omega))
  by_cases hv0 : a0 = 0
  · exact G_tableIn (off := 27) (tgt := 28) dX6_slackOf_1 h1 (by omega) (by omega) (by rw [hv0]; rfl) (by decide) (k28 (by omega))
  by_cases hv1 : a0 = 1
  · exact G_tableIn (off := 31) (tgt := 32) dX6_slackOf_1 h1 (by omega) (by omega) (by rw [hv1]; rfl) (by decide) (k32 (by omega))
  by_cases hv2 : a0 = 2
  · exact G_tableIn (off := 33) (tgt := 34) dX6_slackOf_1 h1 (by omega) (by omega) (by rw [hv2]; rfl) (by decide) (k34 (by omega))
  exact absurd hq (by omega)
theorem k_X6_slackOf_28 {Γ : Gm} {Ret : Option Value → Wd → Prop} {a1 : Int} {o0 o2 : Option Value} {w : Wd} (kr : Ret (some (vI (Int.tdiv a1 2))) w) (h1 : sm a1 := by omega) : G Γ m_X6_slackOf Ret 0 0 28 [o0, some (vI a1), o2] [] w := by
  refine G_iload_n dX6_slackOf_28 rfl ?_
  refine G_const dX6_slackOf_29 ?_
  refine G_idiv dX6_slackOf_30 h1 (by decide) (by decide) (by decide) ?_
  exact G_reti dX6_slackOf_31 trivial ⟨rfl, Nat.le_of_ble_eq_true rfl⟩ kr
theorem k_X6_slackOf_32 {Γ : Gm} {Ret : Option Value → Wd → Prop} {a1 : Int} {o0 o2 : Option Value} {w : Wd} (kr : Ret (some (vI a1)) w) : G Γ m_X6_slackOf Ret 0 0 32 [o0, some (vI a1), o2] [] w := by
  refine G_iload_n dX6_slackOf_32 rfl ?_
  exact G_reti dX6_slackOf_33 trivial ⟨rfl, Nat.le_of_ble_eq_true rfl⟩ kr
theorem k_X6_slackOf_34 {Γ : Gm} {Ret : Option Value → Wd → Prop} {a1 : Int} {o0 o2 : Option Value} {w : Wd} (kr : Ret (some (vI (a1 * 2))) w) : G Γ m_X6_slackOf Ret 0 0 34 [o0, some (vI a1), o2] [] w := by
  refine G_iload_n dX6_slackOf_34 rfl ?_
  refine G_const dX6_slackOf_35 ?_
  refine G_imul dX6_slackOf_36 ?_
  exact G_reti dX6_slackOf_37 trivial ⟨rfl, Nat.le_of_ble_eq_true rfl⟩ kr
theorem k_X6_slackOf_38 {Γ : Gm} {Ret : Option Value → Wd → Prop} {a1 a2 : Int} {o0 : Option Value} {w : Wd} (kr : Ret (some (vI (a1 + a2))) w) : G Γ m_X6_slackOf Ret 0 0 38 [o0, some (vI a1), some (vI a2)] [] w := by
  refine G_iload_n dX6_slackOf_38 rfl ?_
  refine G_iload_n dX6_slackOf_39 rfl ?_
  refine G_iadd dX6_slackOf_40 ?_
  exact G_reti dX6_slackOf_41 trivial ⟨rfl, Nat.le_of_ble_eq_true rfl⟩ kr
