/-- the breadths from strip s on -/
def rowF (T : Tb) (m : Int) : Nat → Int → List Int
  | 0, _ => []
  | n + 1, s => if m ≤ s then [] else T.2.2 s :: rowF T m n (s + T.2.2 s)
def ixF : List Int → Int → Int
  | [], _ => -4
  | b :: l, k => if k = 0 then b else ixF l (k - 1)
def dF (σ : Sg) : Nat := (rS (gR σ) 0 - covK (gK σ)).toNat
def tF (σ : Sg) : Tb := tbF (gR σ) (rS (gR σ) 0) (dF σ)
def fPlan (σ : Sg) (k : Int) : Int := if k < -2 then -1 else if rollK (gR σ) (gK σ) < (tF σ).1 (covK (gK σ)) then -4 else if k = -1 then (tF σ).1 (covK (gK σ)) else if k = -2 then (tF σ).2.1 (covK (gK σ)) else ixF (rowF (tF σ) (rS (gR σ) 0) 12 (covK (gK σ))) k
section
variable {Γ : Gm} {w : Wd}
theorem sp_plans {κ : Kp} {ρ : Rm} {rp : Nat} {m a : Int} {D : Nat} (hP : PlS w) (hR : RoomC w rp ρ) (hrp : rp = 2 ∨ rp = 8) (hC : CarC w 14 ρ κ) (okr : okR ρ) (ok : okK ρ κ) (hm : m = rS ρ 0) (ha : a = covK κ) (hD : (D : Int) = m - a) : SpV Γ m_X1_make [vR 57, vR rp, vR 14] w (fun u => Fr Pp w u ∧ wI u 57 3 = a ∧ wI u 57 4 = m ∧ wI u 57 6 = (tbF ρ m D).1 a ∧ wI u 57 7 = (tbF ρ m D).2.1 a ∧ wI u 57 5 = (if rollK ρ κ < (tbF ρ m D).1 a then 0 else 1) ∧ TbC u m (tbF ρ m D) D) := by
  have o0 := okr.1
  have hcn := ok.cnt okr
  obtain ⟨⟨s57, s58, s59, s60⟩, p0, p1, p2⟩ := id hP
  have sr := hR.1.1
  have sc := hC.1.1
  have e5 := hR.2.1 0 (by omega) (by omega)
  rw [show (0 : Int) + 5 = 5 by rfl] at e5
  have e5 : wI w rp 5 = m := e5.trans hm.symm
  have e3 : wI w 14 3 = a := hC.2.2.1.trans ha.symm
  have hro := rollK_r okr ok
  have a0 : 0 ≤ a := by omega
  have frP : ∀ u : Wd, Fr Pp w u → PlS u ∧ RoomC u rp ρ ∧ CarC u 14 ρ κ := fun u hF =>
    ⟨hP.fr hF, hR.fr hF (fun a a1 a2 => by unfold Pp; rcases hrp with q | q <;> omega), hC.fr hF (fun a a1 a2 => by unfold Pp; omega)⟩
  have strips : ∀ (l d : Nat) (u : Wd), d + l = D → Fr Pp w u → wI u 57 3 = a → wI u 57 4 = m → TbC u m (tbF ρ m d) d → G Γ m_X1_make (fun v u => v = none ∧ Fr Pp w u ∧ wI u 57 3 = a ∧ wI u 57 4 = m ∧ wI u 57 6 = (tbF ρ m D).1 a ∧ wI u 57 7 = (tbF ρ m D).2.1 a ∧ wI u 57 5 = (if rollK ρ κ < (tbF ρ m D).1 a then 0 else 1) ∧ TbC u m (tbF ρ m D) D) 0 0 47 [some (vR 57), some (vR rp), some (vR 14), some (vI (m - ((d : Int) + 1)))] [] u := by
    intro l
    induction l with
    | zero =>
      intro d u hd hF f3 f4 hT
      obtain ⟨hPu, hRu, hCu⟩ := frP u hF
      obtain ⟨⟨s57, s58, s59, s60⟩, p0, p1, p2⟩ := id hPu
      have scu := hCu.1.1
      have : d = D := by omega
      subst this
      have hTa := hT a (by omega) (by omega)
      have hr := tb_r okr hm d (by omega) a (by omega) (by omega)
      have er : wI u 14 4 = rollK ρ κ := hCu.2.2.2.1
      have hF1 : ∀ z, Fr Pp u (stI u 57 6 z) := fun z => Fr.st (P := Pp) (by unfold Pp; omega)
      have q1 : SpP Γ m_X6_at [vR 58, vI (wI u 57 3)] u ((tbF ρ m d).1 a) := (sp_at s58 (by omega) (by omega)).cast (by rw [f3]; exact hTa.1)
      have q2 : SpP Γ m_X6_at [vR 59, vI (wI u 57 3)] (stI u 57 6 ((tbF ρ m d).1 a)) ((tbF ρ m d).2.1 a) := (sp_at (by rw [(hF1 _).sh]; exact s59) (by omega) (by omega)).cast (by rw [f3, wI_st_ne (by decide)]; exact hTa.2.1)
      have last : ∀ z : Int, z = (if rollK ρ κ < (tbF ρ m d).1 a then 0 else 1) → Fr Pp w (stI (stI (stI u 57 6 ((tbF ρ m d).1 a)) 57 7 ((tbF ρ m d).2.1 a)) 57 5 z) ∧ wI (stI (stI (stI u 57 6 ((tbF ρ m d).1 a)) 57 7 ((tbF ρ m d).2.1 a)) 57 5 z) 57 3 = a ∧ wI (stI (stI (stI u 57 6 ((tbF ρ m d).1 a)) 57 7 ((tbF ρ m d).2.1 a)) 57 5 z) 57 4 = m ∧ wI (stI (stI (stI u 57 6 ((tbF ρ m d).1 a)) 57 7 ((tbF ρ m d).2.1 a)) 57 5 z) 57 6 = (tbF ρ m d).1 a ∧ wI (stI (stI (stI u 57 6 ((tbF ρ m d).1 a)) 57 7 ((tbF ρ m d).2.1 a)) 57 5 z) 57 7 = (tbF ρ m d).2.1 a ∧ wI (stI (stI (stI u 57 6 ((tbF ρ m d).1 a)) 57 7 ((tbF ρ m d).2.1 a)) 57 5 z) 57 5 = (if rollK ρ κ < (tbF ρ m d).1 a then 0 else 1) ∧ TbC (stI (stI (stI u 57 6 ((tbF ρ m d).1 a)) 57 7 ((tbF ρ m d).2.1 a)) 57 5 z) m (tbF ρ m d) d := by
        intro z hz
        refine ⟨hF.trans (((hF1 _).trans (Fr.st (P := Pp) (by unfold Pp; omega))).trans (Fr.st (P := Pp) (by unfold Pp; omega))), ?_, ?_, ?_, ?_, ?_, fun x x1 x2 => ?_⟩
        · rw [wI_skip (by decide), wI_skip (by decide), wI_skip (by decide)]; exact f3
        · rw [wI_skip (by decide), wI_skip (by decide), wI_skip (by decide)]; exact f4
        · rw [wI_skip (by decide), wI_skip (by decide), wI_hit]
        · rw [wI_skip (by decide), wI_hit]
        · rw [wI_hit]; exact hz
        · rw [wI_st_ne (r := 57) (a := 58) (by decide), wI_st_ne (r := 57) (a := 58) (by decide), wI_st_ne (r := 57) (a := 58) (by decide), wI_st_ne (r := 57) (a := 59) (by decide), wI_st_ne (r := 57) (a := 59) (by decide), wI_st_ne (r := 57) (a := 59) (by decide), wI_st_ne (r := 57) (a := 60) (by decide), wI_st_ne (r := 57) (a := 60) (by decide), wI_st_ne (r := 57) (a := 60) (by decide)]
          exact hT x x1 x2
      have t57 : sh (stI (stI u 57 6 ((tbF ρ m d).1 a)) 57 7 ((tbF ρ m d).2.1 a)) 57 = some (.inr 1) := s57
      refine k_X1_make_47 (fun _ => k_X1_make_67 (q1 := 58) (q3 := 59) q1 q2 (fun q => k_X1_make_113 ⟨rfl, last 0 ?_⟩) (fun q => k_X1_make_109 ⟨rfl, last 1 ?_⟩)) (fun q => absurd q (by omega))
      · rw [if_pos (by omega)]
      · rw [if_neg (by omega)]
    | succ l ih =>
      intro d u hd hF f3 f4 hT
      obtain ⟨hPu, hRu, hCu⟩ := frP u hF
      have s57u := hPu.1.1
      refine k_X1_make_47 (fun q => absurd q (by omega)) (fun _ => k_X1_make_55 (sp_choose hPu hRu hrp okr hm f4 (tb_r okr hm d (by omega)) hT rfl (by omega)) (fun x hx => k_X1_make_61 ?_))
      have hFx : Fr Pp w x := hF.trans (hx.1.mono (fun a ha => by unfold Pp; omega))
      have n57 : ¬ (58 ≤ 57 ∧ 57 ≤ 60) := by decide
      have hh := ih (d + 1) x (by omega) hFx (by rw [hx.1.2.1 57 n57]; exact f3) (by rw [hx.1.2.1 57 n57]; exact f4) hx.2
      rw [show m - (((d + 1 : Nat) : Int) + 1) = m - ((d : Int) + 1) + (-1) by omega] at hh
      exact hh
  have g57 : ∀ z y, Fr Pp w (stI (stI w 57 3 z) 57 4 y) := fun z y => (Fr.st (P := Pp) (by unfold Pp; omega)).trans (Fr.st (P := Pp) (by unfold Pp; omega))
  refine i_X1_make (k_X1_make_0 (q1 := 58) (sp_put (n := 13) (by rw [(g57 _ _).sh]; exact s58) (by omega) (by omega)) (fun u hu => ?_))
  subst hu
  rw [e3, e5]
  have hF1 : Fr Pp w (stI (stI (stI w 57 3 a) 57 4 m) 58 m 0) := (g57 _ _).trans (Fr.st (P := Pp) (by unfold Pp; omega))
  have f4 : wI (stI (stI (stI w 57 3 a) 57 4 m) 58 m 0) 57 4 = m := by rw [wI_st_ne (by decide), wI_hit]
  have f3 : wI (stI (stI (stI w 57 3 a) 57 4 m) 58 m 0) 57 3 = a := by rw [wI_st_ne (by decide), wI_skip (by decide), wI_hit]
  obtain ⟨⟨t57, t58, t59, t60⟩, r0, r1, r2⟩ := id (hP.fr hF1)
  refine k_X1_make_28 (q1 := 59) (sp_put (n := 13) t59 (by omega) (by omega)) (fun u hu => ?_)
  subst hu
  rw [f4]
  have hF2 : Fr Pp w (stI (stI (stI (stI w 57 3 a) 57 4 m) 58 m 0) 59 m 0) := hF1.trans (Fr.st (P := Pp) (by unfold Pp; omega))
  have g4 : wI (stI (stI (stI (stI w 57 3 a) 57 4 m) 58 m 0) 59 m 0) 57 4 = m := by rw [wI_st_ne (by decide)]; exact f4
  have g3 : wI (stI (stI (stI (stI w 57 3 a) 57 4 m) 58 m 0) 59 m 0) 57 3 = a := by rw [wI_st_ne (by decide)]; exact f3
  have v57 : sh (stI (stI (stI (stI w 57 3 a) 57 4 m) 58 m 0) 59 m 0) 57 = some (.inr 1) := t57
  refine k_X1_make_40 ?_
  rw [g4]
  have hh := strips D 0 _ (by omega) hF2 g3 g4 (fun x x1 x2 => by
    have : x = m := by omega
    subst this
    rw [wI_st_ne (r := 59) (a := 58) (by decide), wI_hit, wI_hit]
    exact ⟨rfl, rfl, fun q => absurd q (by omega)⟩)
  exact hh
theorem sp_breadthOf {m a k : Int} {D : Nat} {ρ : Rm} (hP : PlS w) (okr : okR ρ) (hm : m = rS ρ 0) (e3 : wI w 57 3 = a) (e4 : wI w 57 4 = m) (a0 : 0 ≤ a) (hD : (D : Int) = m - a) (hT : TbC w m (tbF ρ m D) D) (hk : sm k) : SpP Γ m_X1_breadthOf [vR 57, vI k] w (ixF (rowF (tbF ρ m D) m 12 a) k) := by
  have o0 := okr.1
  have o2 := okr.2.2.1
  obtain ⟨⟨s57, s58, s59, s60⟩, p0, p1, p2⟩ := id hP
  have key : ∀ (l i : Nat) (s : Int) (o : Option Value), i + l = 12 → a ≤ s → s ≤ m → G Γ m_X1_breadthOf (fun v u => ∃ z, v = some (vI z) ∧ z = ixF (rowF (tbF ρ m D) m l s) (k - i) ∧ u = w) 0 0 7 [some (vR 57), some (vI k), some (vI s), some (vI i), o] [] w := by
    intro l
    induction l with
    | zero =>
      intro i s o hi h1 h2
      exact k_X1_breadthOf_7 (fun _ => k_X1_breadthOf_50 ⟨_, rfl, rfl, rfl⟩) (fun q => absurd q (by omega))
    | succ l ih =>
      intro i s o hi h1 h2
      refine k_X1_breadthOf_7 (fun q => absurd q (by omega)) (fun _ => k_X1_breadthOf_13 (fun q => k_X1_breadthOf_50 ⟨_, rfl, ?_, rfl⟩) (fun q => ?_))
      · have e : rowF (tbF ρ m D) m (l + 1) s = [] := if_pos (by omega)
        rw [e]; rfl
      · have e : rowF (tbF ρ m D) m (l + 1) s = (tbF ρ m D).2.2 s :: rowF (tbF ρ m D) m l (s + (tbF ρ m D).2.2 s) := if_neg (by omega)
        have hTs := (hT s (by omega) h2).2.2 (by omega)
        have hr := (tb_r okr hm D (by omega) s (by omega) h2).2.2 (by omega)
        have hat : SpP Γ m_X6_at [vR 60, vI s] w ((tbF ρ m D).2.2 s) := (sp_at s60 (by omega) (by omega)).cast hTs
        rw [e]
        refine k_X1_breadthOf_21 (q1 := 60) hat (fun q2 => k_X1_breadthOf_39 ?_) (fun q2 => k_X1_breadthOf_36 ⟨_, rfl, ?_, rfl⟩)
        · have hh := ih (i + 1) (s + (tbF ρ m D).2.2 s) (some (vI ((tbF ρ m D).2.2 s))) (by omega) (by omega) (by omega)
          rw [Int.natCast_add] at hh
          have e2 : ixF ((tbF ρ m D).2.2 s :: rowF (tbF ρ m D) m l (s + (tbF ρ m D).2.2 s)) (k - i) = ixF (rowF (tbF ρ m D) m l (s + (tbF ρ m D).2.2 s)) (k - i - 1) := if_neg (by omega)
          rw [e2, show k - (i : Int) - 1 = k - ((i : Int) + ((1 : Nat) : Int)) by omega]
          exact hh
        · exact (if_pos (by omega) : ixF ((tbF ρ m D).2.2 s :: rowF (tbF ρ m D) m l (s + (tbF ρ m D).2.2 s)) (k - i) = _).symm
  have hh := key 12 0 a none rfl (by omega) (by omega)
  rw [show k - ((0 : Nat) : Int) = k by omega] at hh
  refine i_X1_breadthOf (k_X1_breadthOf_0 ?_)
  rw [e3]
  exact hh
theorem c_plan {σ : Sg} {k : Int} (h : RC w σ) (ok : okS σ) (hk : sm k) : SpI Γ m_X6_plan [vR 0, vI k] w (CQ w (fPlan σ k, σ)) := by
  obtain ⟨⟨⟨s0, s1, s54, s55, s56, s57, s58, s59, s60, s61⟩, ⟨r0, r4, r5, r6, r7, r8, r9, r10⟩, ⟨t54, t54b, t57, t57b, t57c⟩, c17⟩, ⟨rp, dp, hrp, r2, r3, hR, hD⟩, -, hC, -⟩ := id h
  have hcn := ok.k.cnt ok.r
  have hcov := ok.k.2.1
  have hdF : ((dF σ : Nat) : Int) = rS (gR σ) 0 - covK (gK σ) := by unfold dF; omega
  unfold fPlan
  by_cases h1 : k < -2
  · rw [if_pos h1]
    exact i_X6_plan (k_X6_plan_0 (fun q => absurd q (by omega)) (fun _ => k_X6_plan_6 ⟨_, rfl, cq_same h⟩))
  · rw [if_neg h1]
    have hP : PlS w := ⟨⟨s57, s58, s59, s60⟩, t57, t57b, t57c⟩
    refine i_X6_plan (k_X6_plan_0 (fun _ => k_X6_plan_8 (q1 := 57) (q2 := rp) (q3 := 14) (sp_plans hP hR (by omega) hC ok.r ok.k rfl rfl hdF) (fun u hu => ?_)) (fun q => absurd q (by omega)))
    obtain ⟨hF, e3, e4, e6, e7, e5, hT⟩ := hu
    have hRu : RC u σ := by
      obtain ⟨h0, h1, h2, h3, h4, h5, h6⟩ := id h
      exact ⟨h0.fr hF, h1.fr hF (fun a a1 a2 => by unfold Pp; omega), h2.fr hF ⟨by unfold Pp; omega, by unfold Pp; omega⟩, h3.fr hF (fun a a1 a2 => by unfold Pp; omega), h4.fr hF (fun a a1 a2 => by unfold Pp; omega) (by omega), h5.fr hF (fun a a1 a2 => by unfold Pp; omega) (by omega), h6.fr hF ⟨by unfold Pp; omega, by unfold Pp; omega, by unfold Pp; omega⟩⟩
    have hFC : FC w u := hF.fc (fun a ha => by unfold Pp at ha; omega)
    have hPu := hP.fr hF
    obtain ⟨⟨u57, u58, u59, u60⟩, v0, v1, v2⟩ := id hPu
    have s0u : sh u 0 = some (.inr 6) := by rw [hF.sh]; exact s0
    have r9u : wR u 0 9 = vR 57 := by rw [hF.2.2]; exact r9
    have e6 : wI u 57 6 = (tF σ).1 (covK (gK σ)) := e6
    have e7 : wI u 57 7 = (tF σ).2.1 (covK (gK σ)) := e7
    have e5 : wI u 57 5 = (if rollK (gR σ) (gK σ) < (tF σ).1 (covK (gK σ)) then 0 else 1) := e5
    by_cases h2 : rollK (gR σ) (gK σ) < (tF σ).1 (covK (gK σ))
    · rw [if_pos h2] at e5 ⊢
      exact k_X6_plan_23 (q1 := 57) (fun q => absurd e5 q) (fun _ => k_X6_plan_33 ⟨_, rfl, rfl, hRu, hFC⟩)
    · rw [if_neg h2] at e5 ⊢
      refine k_X6_plan_23 (q1 := 57) (fun _ => k_X6_plan_36 (fun q => ?_) (fun q => ?_) (fun q => ?_)) (fun q => absurd q (by omega))
      · rw [if_neg (by omega), if_pos q]
        exact k_X6_plan_72 (q1 := 57) ⟨_, rfl, e7, hRu, hFC⟩
      · rw [if_pos q]
        exact k_X6_plan_64 (q1 := 57) ⟨_, rfl, e6, hRu, hFC⟩
      · rw [if_neg q.2, if_neg q.1]
        exact k_X6_plan_80 (q1 := 57) (sp_breadthOf hPu ok.r rfl e3 e4 (by omega) hdF hT hk) ⟨_, rfl, rfl, hRu, hFC⟩
end
