section
variable {Γ : Gm} {w : Wd}
/-- the first room, as its text tells it -/
def rho0 : Rm := (txF zT).2
theorem zT_no : (txF zT).1 = -4 := by decide +kernel
theorem rho0_s : rS rho0 0 = 7 ∧ rS rho0 1 = 4 ∧ rS rho0 2 = 3 ∧ rS rho0 3 = 50 ∧ rS rho0 4 = 2 ∧ rS rho0 5 = 12 ∧ rS rho0 6 = 1 ∧ rS rho0 7 = 3 := by decide +kernel
theorem rho0_d : okD rho0 := sc_ok 201 0 defR okD_def
theorem rho0_ok : okR rho0 := rho0_d.r (by rw [rho0_s.1]; decide)
def sig0 : Sg := ((0, fun _ => 0), rho0, nilK, (0, fun _ => nilK), (0, fun _ => nilK), (0, fun _ => 0, fun _ => 0))
theorem sig0_ok : okS sig0 := ⟨⟨by decide, by decide⟩, fun k a b => by
  have b' : k < 0 := b
  omega, rho0_ok, ⟨nil_ok rho0_ok, by show (0 : Int) ≤ 999; decide⟩, okP_0 (by decide) _, okP_0 (by decide) _, okV_0 _⟩
/-- a field of place 0 filled, a new object behind it made -/
theorem stage {k : Int} {t c : Nat} {u : Wd} (hc : w.1 = c) (h0 : 0 < c) (g : Gq (fun a => a < c) (nwW (stR w 0 k (vR t))) u) : Gq (fun a => 0 < a ∧ a < c) w u ∧ wR u 0 k = vR t ∧ (∀ j, j ≠ k → wR u 0 j = wR w 0 j) ∧ ∀ j, wI u 0 j = wI w 0 j := by
  have g1 : Gq (fun a => 0 < a ∧ a < c) w (nwW (stR w 0 k (vR t))) := (Gq.stR (fun h => absurd h.1 (by decide))).trans (Gq.nw (fun a ha => by show a < w.1; omega))
  have e1 := g.2 0 h0
  refine ⟨g1.trans (g.less (fun a ha => ha.2)), ?_, fun j hj => ?_, fun j => ?_⟩
  · rw [e1.2, wR_nw, if_neg (by show ¬ 0 = w.1; omega), wR_stR, if_pos ⟨rfl, rfl⟩]
  · rw [e1.2, wR_nw, if_neg (by show ¬ 0 = w.1; omega), wR_stR, if_neg (fun q => hj q.2)]
  · rw [e1.1, wI_nw, if_neg (by show ¬ 0 = w.1; omega)]; rfl
theorem sp_sightInit (hc : w.1 = 55) : SpV Γ m_X5_init [vR 54] w (fun u => SiS u ∧ wI u 54 2 = 0 ∧ u.1 = 57 ∧ Gq (fun a => a < 54) w u) := by
  have s0 : sh w 54 = some (.inr 5) := sh_in (by omega) rfl
  have n1 : (mk w 54 0).1 = 56 := by show w.1 + 1 = _; omega
  have n2 : (mk (mk w 54 0) 54 1).1 = 57 := by show w.1 + 1 + 1 = _; omega
  have g1 : Gq (fun a => a < 54) w (mk (mk w 54 0) 54 1) := (mk_gq (fun a ha => ⟨by omega, by omega⟩)).trans (mk_gq (fun a ha => ⟨by omega, by omega⟩))
  have S : SiS (mk (mk w 54 0) 54 1) := ⟨sh_in (by omega) rfl, sh_in (by omega) rfl, sh_in (by omega) rfl, by rw [mk_skip (by omega) (by decide), mk_hit, hc], by rw [mk_hit, n1]⟩
  refine i_X5_init (k_X5_init_0 (h1 := ⟨_, s0⟩) (h2 := by rw [hc]; rfl) (h4 := sh_nw s0) (h5 := by show shp[(mk w 54 0).1]? = _; rw [n1]; rfl) (h7 := sh_nw (sh_nw s0)) (h9 := S.1) (sp_siClear S.1 (fun _ => 0, fun _ => 0)) (fun u hu => k_X5_init_24 ⟨rfl, ?_, hu.1.1, ?_, g1.trans (Gq.fr hu.2 (fun a ha q => by omega))⟩))
  · obtain ⟨a, b, c, d, e⟩ := S
    exact ⟨by rw [hu.2.sh]; exact a, by rw [hu.2.sh]; exact b, by rw [hu.2.sh]; exact c, by rw [hu.2.2.2]; exact d, by rw [hu.2.2.2]; exact e⟩
  · rw [hu.2.1]; exact n2
theorem sp_cutInit (hc : w.1 = 58) : SpV Γ m_X1_init [vR 57] w (fun u => (wR u 57 0 = vR 58 ∧ wR u 57 1 = vR 59 ∧ wR u 57 2 = vR 60) ∧ u.1 = 61 ∧ Gq (fun a => a < 57) w u) := by
  have s0 : sh w 57 = some (.inr 1) := sh_in (by omega) rfl
  have n1 : (mk w 57 0).1 = 59 := by show w.1 + 1 = _; omega
  have n2 : (mk (mk w 57 0) 57 1).1 = 60 := by show w.1 + 1 + 1 = _; omega
  have n3 : (mk (mk (mk w 57 0) 57 1) 57 2).1 = 61 := by show w.1 + 1 + 1 + 1 = _; omega
  have m1 : ∀ {v : Wd} {k : Int}, 57 < v.1 → Gq (fun a => a < 57) v (mk v 57 k) := fun h => mk_gq (fun a ha => ⟨by omega, by omega⟩)
  have g1 : Gq (fun a => a < 57) w (mk (mk (mk w 57 0) 57 1) 57 2) := ((m1 (by omega)).trans (m1 (by rw [n1]; decide))).trans (m1 (by rw [n2]; decide))
  have s3 : sh (mk (mk (mk w 57 0) 57 1) 57 2) 57 = some (.inr 1) := sh_in (by rw [n3]; decide) rfl
  have hF : Fr (fun a => a = 57) (mk (mk (mk w 57 0) 57 1) 57 2) (stI (mk (mk (mk w 57 0) 57 1) 57 2) 57 5 0) := Fr.st rfl
  refine i_X1_init (k_X1_init_0 (h1 := ⟨_, s0⟩) (h2 := by rw [hc]; rfl) (h4 := sh_nw s0) (h5 := by show shp[(mk w 57 0).1]? = _; rw [n1]; rfl) (h7 := sh_nw (sh_nw s0)) (h8 := by show shp[(mk (mk w 57 0) 57 1).1]? = _; rw [n2]; rfl) (h10 := sh_nw (sh_nw (sh_nw s0))) (k_X1_init_28 (h1 := s3) ⟨rfl, ⟨?_, ?_, ?_⟩, n3, g1.trans (Gq.fr hF (fun a ha q => by omega))⟩))
  · rw [wR_stI, mk_skip (w := mk (mk w 57 0) 57 1) (r := 57) (by rw [n2]; decide) (by decide), mk_skip (w := mk w 57 0) (r := 57) (by rw [n1]; decide) (by decide), mk_hit, hc]
  · rw [wR_stI, mk_skip (w := mk (mk w 57 0) 57 1) (r := 57) (by rw [n2]; decide) (by decide), mk_hit, n1]
  · rw [wR_stI, mk_hit, n2]
theorem sp_orderInit (hc : w.1 = 62) : SpV Γ m_X2_init [vR 61] w (fun u => u.1 = 62 ∧ Gq (fun a => a < 61) w u) := by
  have s0 : sh w 61 = some (.inr 2) := sh_in (by omega) rfl
  have hF : Fr (fun a => a = 61) w (stI w 61 2 (-4)) := Fr.st rfl
  exact i_X2_init (k_X2_init_0 (h1 := ⟨_, s0⟩) (h2 := s0) ⟨rfl, hc, Gq.fr hF (fun a ha q => by omega)⟩)
theorem sp_X6_init (hc : w.1 = 1) (hz : ∀ k, wI w 0 k = 0) : SpV Γ m_X6_init [vR 0] w (fun u => RC u sig0 ∧ u.1 = 63) := by
  obtain ⟨n, f, g⟩ := w
  have hn : n = 1 := hc
  subst hn
  refine i_X6_init (k_X6_init_0 (h1 := ⟨_, rfl⟩) (h2 := rfl) (h4 := rfl) (h5 := rfl) (h8 := rfl) (sp_roomInit (r := 2) rfl rfl rfl rfl rfl rfl rfl) (fun u1 h1 => ?_))
  obtain ⟨R2, e1, g1⟩ := h1
  have z1 : ∀ k, wI u1 0 k = 0 := fun k => ((g1.2 0 (by decide)).1 k).trans (hz k)
  have p0 : wR u1 0 0 = vR 1 := (g1.2 0 (by decide)).2 0
  show G Γ m_X6_init _ _ _ 21 [some (vR 0)] [vR 2, vR 0] u1
  clear g1 hz hc
  obtain ⟨n1, f1, g1⟩ := u1
  have hn : n1 = 8 := e1
  subst hn
  refine k_X6_init_21 (t0 := 0) (t1 := 2) (h1 := rfl) (h2 := rfl) (h5 := rfl) (sp_roomInit (r := 8) rfl rfl rfl rfl rfl rfl rfl) (fun u2 h2 => ?_)
  obtain ⟨R8, e2, g2⟩ := h2
  obtain ⟨a2, b2, c2, d2⟩ := stage (w := (8, f1, g1)) (k := 2) (t := 2) (c := 8) rfl (by decide) g2
  replace R2 := R2.gq a2 (by decide)
  replace z1 : ∀ k, wI u2 0 k = 0 := fun k => (d2 k).trans (z1 k)
  replace p0 := (c2 0 (by decide)).trans p0
  show G Γ m_X6_init _ _ _ 32 [some (vR 0)] [vR 8, vR 0] u2
  clear g2 a2 c2 d2 e1 f g f1 g1
  obtain ⟨n2, f2, g2⟩ := u2
  have hn : n2 = 14 := e2
  subst hn
  refine k_X6_init_32 (t0 := 0) (t1 := 8) (h1 := rfl) (h2 := rfl) (h5 := rfl) (sp_carInit (c := 14) rfl rfl rfl rfl) (fun u3 h3 => ?_)
  obtain ⟨C14, e3, g3⟩ := h3
  obtain ⟨a3, b3, c3, d3⟩ := stage (w := (14, f2, g2)) (k := 3) (t := 8) (c := 14) rfl (by decide) g3
  replace R2 := R2.gq a3 (by decide)
  replace R8 := R8.gq a3 (by decide)
  replace z1 : ∀ k, wI u3 0 k = 0 := fun k => (d3 k).trans (z1 k)
  replace p0 := (c3 0 (by decide)).trans p0
  replace b2 := (c3 2 (by decide)).trans b2
  show G Γ m_X6_init _ _ _ 43 [some (vR 0)] [vR 14, vR 0] u3
  clear g3 a3 c3 d3 e2 f2 g2
  obtain ⟨n3, f3, g3⟩ := u3
  have hn : n3 = 17 := e3
  subst hn
  refine k_X6_init_43 (t0 := 0) (t1 := 14) (h1 := rfl) (h2 := rfl) (h5 := rfl) (sp_carInit (c := 17) rfl rfl rfl rfl) (fun u4 h4 => ?_)
  obtain ⟨C17, e4, g4⟩ := h4
  obtain ⟨a4, b4, c4, d4⟩ := stage (w := (17, f3, g3)) (k := 4) (t := 14) (c := 17) rfl (by decide) g4
  replace R2 := R2.gq a4 (by decide)
  replace R8 := R8.gq a4 (by decide)
  replace C14 := C14.gq a4 (by decide)
  replace z1 : ∀ k, wI u4 0 k = 0 := fun k => (d4 k).trans (z1 k)
  replace p0 := (c4 0 (by decide)).trans p0
  replace b2 := (c4 2 (by decide)).trans b2
  replace b3 := (c4 3 (by decide)).trans b3
  show G Γ m_X6_init _ _ _ 54 [some (vR 0)] [vR 17, vR 0] u4
  clear g4 a4 c4 d4 e3 f3 g3
  obtain ⟨n4, f4, g4⟩ := u4
  have hn : n4 = 20 := e4
  subst hn
  refine k_X6_init_54 (t0 := 0) (t1 := 17) (h1 := rfl) (h2 := rfl) (h5 := rfl) (sp_shelfInit8 (s := 20) rfl rfl rfl (by decide +kernel)) (fun u5 h5 => ?_)
  obtain ⟨S20, e5, g5, i20⟩ := h5
  have j20 : ∀ k, wI u5 20 k = 0 := i20
  obtain ⟨a5, b5, c5, d5⟩ := stage (w := (20, f4, g4)) (k := 5) (t := 17) (c := 20) rfl (by decide) g5
  replace R2 := R2.gq a5 (by decide)
  replace R8 := R8.gq a5 (by decide)
  replace C14 := C14.gq a5 (by decide)
  replace C17 := C17.gq a5 (by decide)
  replace z1 : ∀ k, wI u5 0 k = 0 := fun k => (d5 k).trans (z1 k)
  replace p0 := (c5 0 (by decide)).trans p0
  replace b2 := (c5 2 (by decide)).trans b2
  replace b3 := (c5 3 (by decide)).trans b3
  replace b4 := (c5 4 (by decide)).trans b4
  show G Γ m_X6_init _ _ _ 67 [some (vR 0)] [vR 20, vR 0] u5
  clear g5 a5 c5 d5 e4 i20 f4 g4
  obtain ⟨n5, f5, g5⟩ := u5
  have hn : n5 = 46 := e5
  subst hn
  refine k_X6_init_67 (t0 := 0) (t1 := 20) (h1 := rfl) (h2 := rfl) (h5 := rfl) (sp_shelfInit2 (s := 46) rfl rfl rfl (by decide +kernel)) (fun u6 h6 => ?_)
  obtain ⟨S46, e6, g6, i46⟩ := h6
  have j46 : ∀ k, wI u6 46 k = 0 := i46
  obtain ⟨a6, b6, c6, d6⟩ := stage (w := (46, f5, g5)) (k := 6) (t := 20) (c := 46) rfl (by decide) g6
  replace R2 := R2.gq a6 (by decide)
  replace R8 := R8.gq a6 (by decide)
  replace C14 := C14.gq a6 (by decide)
  replace C17 := C17.gq a6 (by decide)
  replace S20 := S20.gq a6 (fun a x y => ⟨by omega, by omega⟩)
  replace j20 : ∀ k, wI u6 20 k = 0 := fun k => ((a6.2 20 (by decide)).1 k).trans (j20 k)
  replace z1 : ∀ k, wI u6 0 k = 0 := fun k => (d6 k).trans (z1 k)
  replace p0 := (c6 0 (by decide)).trans p0
  replace b2 := (c6 2 (by decide)).trans b2
  replace b3 := (c6 3 (by decide)).trans b3
  replace b4 := (c6 4 (by decide)).trans b4
  replace b5 := (c6 5 (by decide)).trans b5
  show G Γ m_X6_init _ _ _ 79 [some (vR 0)] [vR 46, vR 0] u6
  clear g6 a6 c6 d6 e5 i46 f5 g5
  obtain ⟨n6, f6, g6⟩ := u6
  have hn : n6 = 54 := e6
  subst hn
  refine k_X6_init_79 (t0 := 0) (t1 := 46) (h1 := rfl) (h2 := rfl) (h5 := rfl) (sp_sightInit rfl) (fun u7 h7 => ?_)
  obtain ⟨SI, y54, e7, g7⟩ := h7
  obtain ⟨a7, b7, c7, d7⟩ := stage (w := (54, f6, g6)) (k := 7) (t := 46) (c := 54) rfl (by decide) g7
  replace R2 := R2.gq a7 (by decide)
  replace R8 := R8.gq a7 (by decide)
  replace C14 := C14.gq a7 (by decide)
  replace C17 := C17.gq a7 (by decide)
  replace S20 := S20.gq a7 (fun a x y => ⟨by omega, by omega⟩)
  replace S46 := S46.gq a7 (fun a x y => ⟨by omega, by omega⟩)
  replace j20 : ∀ k, wI u7 20 k = 0 := fun k => ((a7.2 20 (by decide)).1 k).trans (j20 k)
  replace j46 : ∀ k, wI u7 46 k = 0 := fun k => ((a7.2 46 (by decide)).1 k).trans (j46 k)
  replace z1 : ∀ k, wI u7 0 k = 0 := fun k => (d7 k).trans (z1 k)
  replace p0 := (c7 0 (by decide)).trans p0
  replace b2 := (c7 2 (by decide)).trans b2
  replace b3 := (c7 3 (by decide)).trans b3
  replace b4 := (c7 4 (by decide)).trans b4
  replace b5 := (c7 5 (by decide)).trans b5
  replace b6 := (c7 6 (by decide)).trans b6
  show G Γ m_X6_init _ _ _ 90 [some (vR 0)] [vR 54, vR 0] u7
  clear g7 a7 c7 d7 e6 f6 g6
  obtain ⟨n7, f7, g7⟩ := u7
  have hn : n7 = 57 := e7
  subst hn
  refine k_X6_init_90 (t0 := 0) (t1 := 54) (h1 := rfl) (h2 := rfl) (h5 := rfl) (sp_cutInit rfl) (fun u8 h8 => ?_)
  obtain ⟨⟨q0, q1, q2⟩, e8, g8⟩ := h8
  obtain ⟨a8, b8, c8, d8⟩ := stage (w := (57, f7, g7)) (k := 8) (t := 54) (c := 57) rfl (by decide) g8
  replace R2 := R2.gq a8 (by decide)
  replace R8 := R8.gq a8 (by decide)
  replace C14 := C14.gq a8 (by decide)
  replace C17 := C17.gq a8 (by decide)
  replace S20 := S20.gq a8 (fun a x y => ⟨by omega, by omega⟩)
  replace S46 := S46.gq a8 (fun a x y => ⟨by omega, by omega⟩)
  replace j20 : ∀ k, wI u8 20 k = 0 := fun k => ((a8.2 20 (by decide)).1 k).trans (j20 k)
  replace j46 : ∀ k, wI u8 46 k = 0 := fun k => ((a8.2 46 (by decide)).1 k).trans (j46 k)
  replace y54 := ((a8.2 54 (by decide)).1 2).trans y54
  have v0 := ((a8.2 54 (by decide)).2 0).trans SI.2.2.2.1
  have v1 := ((a8.2 54 (by decide)).2 1).trans SI.2.2.2.2
  replace z1 : ∀ k, wI u8 0 k = 0 := fun k => (d8 k).trans (z1 k)
  replace p0 := (c8 0 (by decide)).trans p0
  replace b2 := (c8 2 (by decide)).trans b2
  replace b3 := (c8 3 (by decide)).trans b3
  replace b4 := (c8 4 (by decide)).trans b4
  replace b5 := (c8 5 (by decide)).trans b5
  replace b6 := (c8 6 (by decide)).trans b6
  replace b7 := (c8 7 (by decide)).trans b7
  show G Γ m_X6_init _ _ _ 101 [some (vR 0)] [vR 57, vR 0] u8
  clear g8 a8 c8 d8 e7 SI f7 g7
  obtain ⟨n8, f8, g8⟩ := u8
  have hn : n8 = 61 := e8
  subst hn
  refine k_X6_init_101 (t0 := 0) (t1 := 57) (h1 := rfl) (h2 := rfl) (h5 := rfl) (sp_orderInit rfl) (fun u9 h9 => ?_)
  obtain ⟨e9, g9⟩ := h9
  obtain ⟨a9, b9, c9, d9⟩ := stage (w := (61, f8, g8)) (k := 9) (t := 57) (c := 61) rfl (by decide) g9
  replace R2 := R2.gq a9 (by decide)
  replace R8 := R8.gq a9 (by decide)
  replace C14 := C14.gq a9 (by decide)
  replace C17 := C17.gq a9 (by decide)
  replace S20 := S20.gq a9 (fun a x y => ⟨by omega, by omega⟩)
  replace S46 := S46.gq a9 (fun a x y => ⟨by omega, by omega⟩)
  replace j20 : ∀ k, wI u9 20 k = 0 := fun k => ((a9.2 20 (by decide)).1 k).trans (j20 k)
  replace j46 : ∀ k, wI u9 46 k = 0 := fun k => ((a9.2 46 (by decide)).1 k).trans (j46 k)
  replace y54 := ((a9.2 54 (by decide)).1 2).trans y54
  replace v0 := ((a9.2 54 (by decide)).2 0).trans v0
  replace v1 := ((a9.2 54 (by decide)).2 1).trans v1
  replace q0 := ((a9.2 57 (by decide)).2 0).trans q0
  replace q1 := ((a9.2 57 (by decide)).2 1).trans q1
  replace q2 := ((a9.2 57 (by decide)).2 2).trans q2
  replace z1 : ∀ k, wI u9 0 k = 0 := fun k => (d9 k).trans (z1 k)
  replace p0 := (c9 0 (by decide)).trans p0
  replace b2 := (c9 2 (by decide)).trans b2
  replace b3 := (c9 3 (by decide)).trans b3
  replace b4 := (c9 4 (by decide)).trans b4
  replace b5 := (c9 5 (by decide)).trans b5
  replace b6 := (c9 6 (by decide)).trans b6
  replace b7 := (c9 7 (by decide)).trans b7
  replace b8 := (c9 8 (by decide)).trans b8
  show G Γ m_X6_init _ _ _ 112 [some (vR 0)] [vR 61, vR 0] u9
  clear g9 a9 c9 d9 e8 f8 g8
  obtain ⟨n9, f9, g9⟩ := u9
  have hn : n9 = 62 := e9
  subst hn
  refine G_putR (ty := (.object "StretchedCarpet$HookOrder")) dX6_init_112 fl_RX6_62 (rfl : sh (62, f9, g9) 0 = some (.inr 6)) rfl (fun _ => ⟨rfl, _, _, rfl⟩) (by decide +kernel) (fun _ => rfl) (fun _ => rfl) ?_
  have a10 : Gq (fun a => 0 < a ∧ a < 62) (62, f9, g9) (stR (62, f9, g9) 0 10 (vR 61)) := Gq.stR (fun h => absurd h.1 (by decide))
  have c10 : ∀ j, j ≠ 10 → wR (stR (62, f9, g9) 0 10 (vR 61)) 0 j = wR (62, f9, g9) 0 j := fun j hj => by rw [wR_stR, if_neg (fun q => hj q.2)]
  have b10 : wR (stR (62, f9, g9) 0 10 (vR 61)) 0 10 = vR 61 := rfl
  have hw : (stR (62, f9, g9) 0 10 (vR 61)).1 = 62 := rfl
  have z1 : ∀ k, wI (stR (62, f9, g9) 0 10 (vR 61)) 0 k = 0 := z1
  generalize stR (62, f9, g9) 0 10 (vR 61) = x at *
  replace R2 := R2.gq a10 (by decide)
  replace R8 := R8.gq a10 (by decide)
  replace C14 := C14.gq a10 (by decide)
  replace C17 := C17.gq a10 (by decide)
  replace S20 := S20.gq a10 (fun a x y => ⟨by omega, by omega⟩)
  replace S46 := S46.gq a10 (fun a x y => ⟨by omega, by omega⟩)
  replace j20 : ∀ k, wI x 20 k = 0 := fun k => ((a10.2 20 (by decide)).1 k).trans (j20 k)
  replace j46 : ∀ k, wI x 46 k = 0 := fun k => ((a10.2 46 (by decide)).1 k).trans (j46 k)
  replace y54 := ((a10.2 54 (by decide)).1 2).trans y54
  replace v0 := ((a10.2 54 (by decide)).2 0).trans v0
  replace v1 := ((a10.2 54 (by decide)).2 1).trans v1
  replace q0 := ((a10.2 57 (by decide)).2 0).trans q0
  replace q1 := ((a10.2 57 (by decide)).2 1).trans q1
  replace q2 := ((a10.2 57 (by decide)).2 2).trans q2
  replace p0 := (c10 0 (by decide)).trans p0
  replace b2 := (c10 2 (by decide)).trans b2
  replace b3 := (c10 3 (by decide)).trans b3
  replace b4 := (c10 4 (by decide)).trans b4
  replace b5 := (c10 5 (by decide)).trans b5
  replace b6 := (c10 6 (by decide)).trans b6
  replace b7 := (c10 7 (by decide)).trans b7
  replace b8 := (c10 8 (by decide)).trans b8
  replace b9 := (c10 9 (by decide)).trans b9
  clear a10 c10
  have s0 : sh x 0 = some (.inr 6) := sh_in (by omega) rfl
  refine G_aload_n dX6_init_115 rfl ?_
  refine G_getR dX6_init_116 fl_RX6_16 s0 rfl b2 ?_
  refine G_zldc dX6_init_119 rfl ?_
  refine G_zcall (n := 0) (st := [vR 2]) dX6_init_121 ml_tca rfl mc_tca ⟨by decide, ⟨Nat.le_of_ble_eq_true rfl, Nat.le_of_ble_eq_true rfl⟩, by decide⟩ (sp_tca (by rw [hw]; rfl)) (fun v x2 hv => ?_)
  obtain ⟨r, rfl, hr, hF, hL⟩ := hv
  rw [hw] at hr hF hL
  subst hr
  have a11 : Gq (fun a => a < 62) x x2 := (Gq.nw (fun a ha => by omega)).trans (Gq.fr hF (fun a ha q => by omega))
  have hx2 : x2.1 = 63 := by rw [hF.1]; show x.1 + 1 = 63; omega
  replace R2 := R2.gq a11 (by decide)
  replace R8 := R8.gq a11 (by decide)
  replace C14 := C14.gq a11 (by decide)
  replace C17 := C17.gq a11 (by decide)
  replace S20 := S20.gq a11 (fun a x y => by omega)
  replace S46 := S46.gq a11 (fun a x y => by omega)
  replace j20 : ∀ k, wI x2 20 k = 0 := fun k => ((a11.2 20 (by decide)).1 k).trans (j20 k)
  replace j46 : ∀ k, wI x2 46 k = 0 := fun k => ((a11.2 46 (by decide)).1 k).trans (j46 k)
  replace y54 := ((a11.2 54 (by decide)).1 2).trans y54
  replace v0 := ((a11.2 54 (by decide)).2 0).trans v0
  replace v1 := ((a11.2 54 (by decide)).2 1).trans v1
  replace q0 := ((a11.2 57 (by decide)).2 0).trans q0
  replace q1 := ((a11.2 57 (by decide)).2 1).trans q1
  replace q2 := ((a11.2 57 (by decide)).2 2).trans q2
  replace z1 : ∀ k, wI x2 0 k = 0 := fun k => ((a11.2 0 (by decide)).1 k).trans (z1 k)
  have t0 := fun k => (a11.2 0 (by decide)).2 k
  replace p0 := (t0 0).trans p0
  replace b2 := (t0 2).trans b2
  replace b3 := (t0 3).trans b3
  replace b4 := (t0 4).trans b4
  replace b5 := (t0 5).trans b5
  replace b6 := (t0 6).trans b6
  replace b7 := (t0 7).trans b7
  replace b8 := (t0 8).trans b8
  replace b9 := (t0 9).trans b9
  replace b10 := (t0 10).trans b10
  clear a11 t0 hF s0 hw
  clear x
  have s0 : sh x2 0 = some (.inr 6) := sh_in (by omega) rfl
  refine G_zldc dX6_init_124 rfl ?_
  refine G_zcall (n := 0) (st := [vR 62, vR 2]) dX6_init_126 ml_sln rfl mc_sln ⟨by decide, ⟨Nat.le_of_ble_eq_true rfl, Nat.le_of_ble_eq_true rfl⟩, by decide⟩ sp_sln (fun v w' hv => ?_)
  obtain ⟨z, rfl, rfl, ew⟩ := hv
  rw [ew]
  clear ew
  have hT : TxS x2 62 84 zT := ⟨sh_in (by omega) rfl, ⟨by decide, by decide⟩, hL⟩
  have hK : ClsS x2 := ⟨⟨s0, sh_in (by omega) rfl, sh_in (by omega) rfl, sh_in (by omega) rfl, sh_in (by omega) rfl, sh_in (by omega) rfl, sh_in (by omega) rfl, sh_in (by omega) rfl, sh_in (by omega) rfl, sh_in (by omega) rfl⟩, ⟨p0, b4, b5, b6, b7, b8, b9, b10⟩, ⟨v0, v1, q0, q1, q2⟩, C17⟩
  refine G_VI (as := [vR 62, vI 84]) (st := []) n0_X3_readText dX6_init_129 ml_RX6_78 mc_X3_readText rfl ⟨by decide, ⟨Nat.le_of_ble_eq_true rfl, Nat.le_of_ble_eq_true rfl⟩, Nat.le_of_ble_eq_true rfl⟩ R2.1 ⟨_, _, rfl⟩ (sp_readText (t := zT) (x := 62) (m := 84) zT_ok (fun q => by unfold PcR at q; omega) hT R2) (fun z u hu => ?_)
  obtain ⟨rfl, hR, hF⟩ := hu
  have hR2 : RoomC u 2 rho0 := hR zT_no
  have hK2 := hK.fr hF
  have R8u := R8.fr hF
  have C14u := C14.fr hF
  have hn : ∀ a, (a < 2 ∨ 8 ≤ a) → ¬ PcR 2 a := fun a q r => by unfold PcR at r; omega
  have S20u := S20.fr hF
  have S46u := S46.fr hF
  have su := hK2.1.1
  have ru2 : wR u 0 2 = vR 2 := by rw [hF.2.2]; exact b2
  have ru3 : wR u 0 3 = vR 8 := by rw [hF.2.2]; exact b3
  have ru4 : wR u 0 4 = vR 14 := by rw [hF.2.2]; exact b4
  refine G_pop dX6_init_132 rfl ?_
  refine G_aload_n dX6_init_133 rfl ?_
  refine G_getR dX6_init_134 fl_RX6_26 su rfl ru4 ?_
  refine G_aload_n dX6_init_137 rfl ?_
  refine G_getR dX6_init_138 fl_RX6_16 su rfl ru2 ?_
  refine G_getI dX6_init_141 fl_RX6_82 hR2.1.1 rfl ?_
  have e8 : wI u 2 8 = rS rho0 3 := hR2.2.1 3 (by decide) (by decide)
  refine G_VV (as := [vI (wI u 2 8)]) (st := []) n0_X0_clear dX6_init_144 ml_RX6_86 mc_X0_clear rfl ⟨by decide, ⟨Nat.le_of_ble_eq_true rfl, Nat.le_of_ble_eq_true rfl⟩, Nat.le_of_ble_eq_true rfl⟩ C14u.1 ⟨_, _, rfl⟩ (by rw [e8]; exact sp_carClear C14u rho0_ok) (fun y hy => ?_)
  obtain ⟨hC, hG⟩ := hy
  have hm : ∀ a, ¬ (14 ≤ a ∧ a ≤ 16) → ¬ Pc3 14 a := fun a q r => q (by unfold Pc3 at r; omega)
  have hi : ∀ a, (a < 2 ∨ 8 ≤ a) → ¬ (14 ≤ a ∧ a ≤ 16) → ∀ k, wI y a k = wI x2 a k := fun a h1 h2 k => (hG.2.1 a (hm a h2) k).trans (hF.2.1 a (hn a h1) k)
  refine G_retv dX6_init_147 trivial ⟨rfl, Nat.le_of_ble_eq_true rfl⟩ ⟨rfl, ⟨hK2.fr hG, ⟨2, 8, Or.inl ⟨rfl, rfl⟩, by rw [hG.2.2]; exact ru2, by rw [hG.2.2]; exact ru3, hR2.fr hG (fun a a1 a2 => hm a (by omega)), R8u.fr hG⟩, ⟨(hi 0 (by decide) (by decide) 1).trans (z1 1), fun k a b => ?_⟩, hC, ⟨S20u.fr hG, ?_, ?_, fun j i a b => ?_⟩, ⟨S46u.fr hG, ?_, ?_, fun j i a b => ?_⟩, ⟨(hi 54 (by decide) (by decide) 2).trans y54, fun k a b => ?_⟩⟩, ?_⟩
  · have b' : k < 0 := b
    omega
  · rw [hi 20 (by decide) (by decide), j20]; decide
  · rw [hi 20 (by decide) (by decide), j20]; rfl
  · have b' : j < 0 := b
    omega
  · rw [hi 46 (by decide) (by decide), j46]; decide
  · rw [hi 46 (by decide) (by decide), j46]; rfl
  · have b' : j < 0 := b
    omega
  · have b' : k < 0 := b
    omega
  · rw [hG.1, hF.1]; exact hx2
end
