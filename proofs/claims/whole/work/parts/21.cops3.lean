section
variable {Γ : Gm} {w : Wd}
/-- what was seen, as the class holds it -/
def SiS (w : Wd) : Prop := sh w 54 = some (.inr 5) ∧ sh w 55 = some (.inl (0, 6)) ∧ sh w 56 = some (.inl (0, 6)) ∧ wR w 54 0 = vR 55 ∧ wR w 54 1 = vR 56
theorem hrF_01 {ρ : Rm} {κ : Kp} {a b : Int} : ∀ n k : Nat, hrF ρ κ a b k n = 0 ∨ hrF ρ κ a b k n = 1
  | 0, _ => Or.inl rfl
  | n + 1, k => by
    unfold hrF
    split
    · exact Or.inr rfl
    · exact hrF_01 n (k + 1)
theorem soN_01 {F V : Int → Int} {c : Int} : ∀ n k : Nat, soN F V c k n = 0 ∨ soN F V c k n = 1
  | 0, _ => Or.inr rfl
  | n + 1, k => by
    unfold soN
    split
    · exact soN_01 n (k + 1)
    · exact Or.inl rfl
theorem sp_explained {v : Int × (Int → Int) × (Int → Int)} {kd g : Int} (hs : SiS w) (hS : SiC w v) (ok : okV v) (hk : 0 ≤ kd ∧ kd ≤ 3) (hg : 1 ≤ g ∧ g ≤ 9) : SpP Γ m_X5_explainedBy [vR 54, vI kd, vI g] w (so v kd g) := by
  obtain ⟨s54, s55, s56, t0, t1⟩ := hs
  have e2 : wI w 54 2 = v.1 := hS.1
  have hsl := slk_r (k := kd) (g := g) (h := 1) hg (by omega)
  have on := ok.1
  have key : ∀ n k : Nat, (k : Int) + n = v.1 → G Γ m_X5_explainedBy (fun r u => ∃ z, r = some (vI z) ∧ z = soN v.2.1 v.2.2 (1 - slk kd g 1) k n ∧ u = w) 0 0 12 [some (vR 54), some (vI kd), some (vI g), some (vI (1 - slk kd g 1)), some (vI k)] [] w := by
    intro n
    induction n with
    | zero =>
      intro k hk
      exact k_X5_explainedBy_12 (fun _ => k_X5_explainedBy_56 (rp rfl)) (fun q => absurd q (by omega))
    | succ n ih =>
      intro k hk
      have hh := ih (k + 1) (by omega)
      rw [Int.natCast_add] at hh
      have f1 := hS.2 k (by omega) (by omega)
      have f2 := ok.2 k (by omega) (by omega)
      refine k_X5_explainedBy_12 (fun q => absurd q (by omega)) (fun _ => k_X5_explainedBy_21 (q1 := 55) (q3 := 56) (sp_at s55 (by omega) (by omega)) (sp_at s56 (by omega) (by omega)) (fun q => k_X5_explainedBy_50 ?_) (fun q => k_X5_explainedBy_48 (rp ?_)))
      · rw [f1.1, f1.2] at q
        have e : soN v.2.1 v.2.2 (1 - slk kd g 1) k (n + 1) = soN v.2.1 v.2.2 (1 - slk kd g 1) (k + 1) n := if_pos q
        rw [e]; exact hh
      · rw [f1.1, f1.2] at q
        exact (if_neg q : soN v.2.1 v.2.2 (1 - slk kd g 1) k (n + 1) = 0).symm
  refine i_X5_explainedBy (k_X5_explainedBy_0 (sp_slack hk (by omega) (by omega)) ?_)
  exact key v.1.toNat 0 (by omega)
theorem zor_r : ∀ n : Nat, n < 10 → ∀ x : Nat, x < 1024 → (0 ≤ zor x (zshl 1 n) ∧ zor x (zshl 1 n) < 1024) := by decide +kernel
theorem may_r {p : Int → Int} {n k : Nat} {x : Int} (hk : k + n ≤ 10) (hx : 0 ≤ x ∧ x < 1024) : 0 ≤ mayF p k x n ∧ mayF p k x n < 1024 := by
  induction n generalizing k x with
  | zero => exact hx
  | succ n ih =>
    unfold mayF
    have hr := zor_r k (by omega) x.toNat (by omega)
    rw [show ((x.toNat : Nat) : Int) = x by omega] at hr
    have q := ih (k := k + 1) (x := if p k = 0 then x else zor x (zshl 1 k)) (by omega) (by split <;> assumption)
    rw [Int.natCast_add] at q
    exact q
theorem sp_kindsFor {v : Int × (Int → Int) × (Int → Int)} {g : Int} (hs : SiS w) (hS : SiC w v) (ok : okV v) (hg : 1 ≤ g ∧ g ≤ 9) : SpP Γ m_X5_kindsFor [vR 54, vI g] w (mayF (fun x => so v x g) 0 0 4) := by
  have s54 := hs.1
  have key : ∀ (n k : Nat) (x : Int), k + n = 4 → (0 ≤ x ∧ x < 1024) → G Γ m_X5_kindsFor (fun r u => ∃ z, r = some (vI z) ∧ z = mayF (fun x => so v x g) k x n ∧ u = w) 0 0 4 [some (vR 54), some (vI g), some (vI x), some (vI k)] [] w := by
    intro n
    induction n with
    | zero =>
      intro k x hk hx
      exact k_X5_kindsFor_4 (fun _ => k_X5_kindsFor_30 (rp rfl)) (fun q => absurd q (by omega))
    | succ n ih =>
      intro k x hk hx
      have hz := soN_01 (F := v.2.1) (V := v.2.2) (c := 1 - slk k g 1) v.1.toNat 0
      have hz : so v k g = 0 ∨ so v k g = 1 := hz
      have hr := zor_r k (by omega) x.toNat (by omega)
      rw [show ((x.toNat : Nat) : Int) = x by omega] at hr
      refine k_X5_kindsFor_4 (fun q => absurd q (by omega)) (fun _ => k_X5_kindsFor_9 (sp_explained hs hS ok (by omega) hg) (fun q => k_X5_kindsFor_24 ?_) (fun q => k_X5_kindsFor_18 ?_))
      · have hh := ih (k + 1) x (by omega) hx
        rw [Int.natCast_add] at hh
        have e : mayF (fun x => so v x g) k x (n + 1) = mayF (fun x => so v x g) (k + 1) x n := by
          show mayF _ _ (if so v k g = 0 then x else _) _ = _
          rw [if_pos q]
        rw [e]; exact hh
      · have hh := ih (k + 1) (zor x (zshl 1 k)) (by omega) hr
        rw [Int.natCast_add] at hh
        have e : mayF (fun x => so v x g) k x (n + 1) = mayF (fun x => so v x g) (k + 1) (zor x (zshl 1 k)) n := by
          show mayF _ _ (if so v k g = 0 then x else _) _ = _
          rw [if_neg q]
        rw [e]; exact hh
  exact i_X5_kindsFor (k_X5_kindsFor_0 (key 4 0 0 rfl (by omega)))
theorem sp_givesFor {v : Int × (Int → Int) × (Int → Int)} {kd : Int} (hs : SiS w) (hS : SiC w v) (ok : okV v) (hg : 0 ≤ kd ∧ kd ≤ 3) : SpP Γ m_X5_givesFor [vR 54, vI kd] w (mayF (fun x => so v kd x) 1 0 9) := by
  have s54 := hs.1
  have key : ∀ (n k : Nat) (x : Int), k + n = 10 → 1 ≤ k → (0 ≤ x ∧ x < 1024) → G Γ m_X5_givesFor (fun r u => ∃ z, r = some (vI z) ∧ z = mayF (fun x => so v kd x) k x n ∧ u = w) 0 0 4 [some (vR 54), some (vI kd), some (vI x), some (vI k)] [] w := by
    intro n
    induction n with
    | zero =>
      intro k x hk hk1 hx
      exact k_X5_givesFor_4 (fun _ => k_X5_givesFor_31 (rp rfl)) (fun q => absurd q (by omega))
    | succ n ih =>
      intro k x hk hk1 hx
      have hz := soN_01 (F := v.2.1) (V := v.2.2) (c := 1 - slk kd k 1) v.1.toNat 0
      have hz : so v kd k = 0 ∨ so v kd k = 1 := hz
      have hr := zor_r k (by omega) x.toNat (by omega)
      rw [show ((x.toNat : Nat) : Int) = x by omega] at hr
      refine k_X5_givesFor_4 (fun q => absurd q (by omega)) (fun _ => k_X5_givesFor_10 (sp_explained hs hS ok hg (by omega)) (fun q => k_X5_givesFor_25 ?_) (fun q => k_X5_givesFor_19 ?_))
      · have hh := ih (k + 1) x (by omega) (by omega) hx
        rw [Int.natCast_add] at hh
        have e : mayF (fun x => so v kd x) k x (n + 1) = mayF (fun x => so v kd x) (k + 1) x n := by
          show mayF _ _ (if so v kd k = 0 then x else _) _ = _
          rw [if_pos q]
        rw [e]; exact hh
      · have hh := ih (k + 1) (zor x (zshl 1 k)) (by omega) (by omega) hr
        rw [Int.natCast_add] at hh
        have e : mayF (fun x => so v kd x) k x (n + 1) = mayF (fun x => so v kd x) (k + 1) (zor x (zshl 1 k)) n := by
          show mayF _ _ (if so v kd k = 0 then x else _) _ = _
          rw [if_neg q]
        rw [e]; exact hh
  exact i_X5_givesFor (k_X5_givesFor_0 (key 9 1 0 rfl (by omega) (by omega)))
theorem c_may {σ : Sg} {k : Int} (h : RC w σ) (ok : okS σ) (hk : sm k) : SpI Γ m_X6_may [vR 0, vI k] w (CQ w (fMay σ k, σ)) := by
  obtain ⟨⟨⟨s0, s1, s54, s55, s56, s57, s58, s59, s60, s61⟩, ⟨r0, r4, r5, r6, r7, r8, r9, r10⟩, ⟨t0, t1, -⟩, -⟩, ⟨rp, dp, hrp, r2, r3, hR, hD⟩, -, hC, hU, hE, hS⟩ := id h
  have sr := hR.1.1
  have hs : SiS w := ⟨s54, s55, s56, t0, t1⟩
  have e7 := hR.2.1 7 (by omega) (by omega)
  rw [show (7 : Int) + 5 = 12 by rfl] at e7
  have e6 := hR.2.1 6 (by omega) (by omega)
  rw [show (6 : Int) + 5 = 11 by rfl] at e6
  have o6 := ok.r.2.2.2.2.2.2.1
  have o7 := ok.r.2.2.2.2.2.2.2.1
  unfold fMay
  refine i_X6_may (k_X6_may_0 (fun q => ?_) (fun q => ?_) (fun q => k_X6_may_58 ?_))
  · rw [if_pos q]
    have hr := may_r (p := fun x => so (gV σ) x (rS (gR σ) 7)) (n := 4) (k := 0) (x := 0) (by omega) (by omega)
    exact k_X6_may_28 (q1 := 54) (q2 := rp) (z3 := mayF (fun v => so (gV σ) v (rS (gR σ) 7)) 0 0 4) (by rw [e7]; exact sp_kindsFor hs hS ok.2.2.2.2.2.2 o7) ⟨_, rfl, cq_same h⟩
  · rw [if_neg (by omega), if_pos q]
    have hr := may_r (p := fun x => so (gV σ) (rS (gR σ) 6) x) (n := 9) (k := 1) (x := 0) (by omega) (by omega)
    exact k_X6_may_43 (q1 := 54) (q2 := rp) (z3 := mayF (fun v => so (gV σ) (rS (gR σ) 6) v) 1 0 9) (by rw [e6]; exact sp_givesFor hs hS ok.2.2.2.2.2.2 o6) ⟨_, rfl, cq_same h⟩
  · rw [if_neg q.1, if_neg q.2]
    exact ⟨_, rfl, cq_same h⟩
theorem c_hall {σ : Sg} {a b : Int} (h : RC w σ) (ok : okS σ) (ha : sm a) (hb : sm b) : SpI Γ m_X6_hall [vR 0, vI a, vI b] w (CQ w (fHall σ a b, σ)) := by
  obtain ⟨⟨⟨s0, s1, s54, s55, s56, s57, s58, s59, s60, s61⟩, ⟨r0, r4, r5, r6, r7, r8, r9, r10⟩, -⟩, ⟨rp, dp, hrp, r2, r3, hR, hD⟩, -, hC, -⟩ := id h
  have sr := hR.1.1
  have sc := hC.1.1
  have e2 := hR.2.1 2 (by omega) (by omega)
  rw [show (2 : Int) + 5 = 7 by rfl] at e2
  have er : wI w 14 4 = rollK (gR σ) (gK σ) := hC.2.2.2.1
  have o2 := ok.r.2.2.1
  have hro := rollK_r ok.r ok.k
  have h01 := hrF_01 (ρ := gR σ) (κ := gK σ) (a := a) (b := b) (kC (gK σ)) 0
  unfold fHall
  by_cases h1 : 1 ≤ a ∧ a ≤ 6
  · refine i_X6_hall (k_X6_hall_0 (sp_within1 h1 ha (by omega) (by omega)) (fun q => absurd q (by decide)) (fun _ => ?_))
    by_cases h2 : 1 ≤ b ∧ b ≤ 40
    · rw [if_pos ⟨h1, h2⟩]
      refine k_X6_hall_10 (sp_within1 h2 hb (by omega) (by omega)) (fun _ => ?_) (fun q => absurd q (by decide))
      refine k_X6_hall_22 (q1 := 14) (q2 := rp) (sp_hasRest hC hR ok.r ok.k h1 h2) (fun q => ?_) (fun q => ?_)
      · rw [if_pos q]
        by_cases h3 : a ≤ rS (gR σ) 2
        · by_cases h4 : b ≤ rollK (gR σ) (gK σ)
          · rw [if_pos ⟨h3, h4⟩]
            exact k_X6_hall_40 (q1 := rp) (fun q => absurd q (by omega)) (fun _ => k_X6_hall_51 (q1 := 14) (fun q => absurd q (by omega)) (fun _ => k_X6_hall_62 ⟨_, rfl, cq_same h⟩))
          · rw [if_neg (fun q => h4 q.2)]
            exact k_X6_hall_40 (q1 := rp) (fun q => absurd q (by omega)) (fun _ => k_X6_hall_51 (q1 := 14) (fun _ => k_X6_hall_66 ⟨_, rfl, cq_same h⟩) (fun q => absurd q (by omega)))
        · rw [if_neg (fun q => h3 q.1)]
          exact k_X6_hall_40 (q1 := rp) (fun _ => k_X6_hall_66 ⟨_, rfl, cq_same h⟩) (fun q => absurd q (by omega))
      · rw [if_neg q]
        exact k_X6_hall_38 ⟨_, rfl, cq_same h⟩
    · rw [if_neg (fun q => h2 q.2)]
      exact k_X6_hall_10 (sp_within0 h2 hb (by omega) (by omega)) (fun q => absurd rfl q) (fun _ => k_X6_hall_20 ⟨_, rfl, cq_same h⟩)
  · rw [if_neg (fun q => h1 q.1)]
    exact i_X6_hall (k_X6_hall_0 (sp_within0 h1 ha (by omega) (by omega)) (fun _ => k_X6_hall_20 ⟨_, rfl, cq_same h⟩) (fun q => absurd rfl q))
theorem c_left {σ : Sg} {k : Int} (h : RC w σ) (ok : okS σ) (hk : sm k) : SpI Γ m_X6_left [vR 0, vI k] w (CQ w (fLeft σ k, σ)) := by
  obtain ⟨⟨⟨s0, s1, s54, s55, s56, s57, s58, s59, s60, s61⟩, ⟨r0, r4, r5, r6, r7, r8, r9, r10⟩, -⟩, ⟨rp, dp, hrp, r2, r3, hR, hD⟩, -, hC, -⟩ := id h
  have sr := hR.1.1
  have sc := hC.1.1
  have e2 := hR.2.1 2 (by omega) (by omega)
  rw [show (2 : Int) + 5 = 7 by rfl] at e2
  have er : wI w 14 4 = rollK (gR σ) (gK σ) := hC.2.2.2.1
  unfold fLeft
  refine i_X6_left (k_X6_left_0 (fun q => ?_) (fun q => ?_) (fun q => k_X6_left_56 ?_))
  · rw [if_pos q]
    exact k_X6_left_28 (q1 := 14) (q2 := rp) (sp_area hC hR ok.r ok.k) ⟨_, rfl, cq_same h⟩
  · rw [if_neg (by omega), if_pos q]
    exact k_X6_left_40 (q1 := rp) (q2 := 14) (by rw [e2, er]; exact ⟨_, rfl, cq_same h⟩)
  · rw [if_neg q.1, if_neg q.2]
    exact ⟨_, rfl, cq_same h⟩
theorem c_count {σ : Sg} {k : Int} (h : RC w σ) (ok : okS σ) (hk : sm k) : SpI Γ m_X6_count [vR 0, vI k] w (CQ w (fCount σ k, σ)) := by
  obtain ⟨⟨⟨s0, s1, s54, s55, s56, s57, s58, s59, s60, s61⟩, ⟨r0, r4, r5, r6, r7, r8, r9, r10⟩, -⟩, ⟨rp, dp, hrp, r2, r3, hR, hD⟩, hT, hC, hU, hE, hS⟩ := id h
  have sr := hR.1.1
  have sc := hC.1.1
  have su := hU.1.1
  have se := hE.1.1
  have e5 := hR.2.1 0 (by omega) (by omega)
  rw [show (0 : Int) + 5 = 5 by rfl] at e5
  have c2 : wI w 14 2 = kC (gK σ) := hC.2.1
  have c4 : wI w 14 4 = rollK (gR σ) (gK σ) := hC.2.2.2.1
  have c5 : wI w 14 5 = kH (gK σ) := hC.2.2.2.2.1
  have c6 : wI w 14 6 = kN (gK σ) := hC.2.2.2.2.2.1
  have c7 : wI w 14 7 = kM (gK σ) := hC.2.2.2.2.2.2.1
  have v2 : wI w 54 2 = (gV σ).1 := hS.1
  have u2 : wI w 20 2 = (gU σ).1 := hU.2.2.1
  have x2 : wI w 46 2 = (gE σ).1 := hE.2.2.1
  have n1 : wI w 0 1 = gN σ := hT.1
  have b5 := ok.k.2.2.2.2.1
  have b6 := ok.k.2.2.2.2.2.1
  have cc := ok.k.cnt ok.r
  have okr0 := ok.r.1
  unfold fCount
  refine i_X6_count (k_X6_count_0 (fun q => ?_) (fun q => ?_) (fun q => ?_) (fun q => ?_) (fun q => ?_) (fun q => ?_) (fun q => ?_) (fun q => ?_) (fun q => ?_) (fun q => ?_) (fun q => ?_) (fun q => ?_))
  · subst q; exact k_X6_count_60 (q1 := rp) ⟨_, rfl, e5, h, FC.rfl⟩
  · subst q; exact k_X6_count_68 (q1 := 14) ⟨_, rfl, c2, h, FC.rfl⟩
  · subst q; exact k_X6_count_76 (q1 := 14) ⟨_, rfl, c4, h, FC.rfl⟩
  · subst q; exact k_X6_count_84 (q1 := 14) (by rw [c2]; exact ⟨_, rfl, rfl, h, FC.rfl⟩)
  · subst q; exact k_X6_count_98 (q1 := 14) (z2 := bcn (kH (gK σ))) (by rw [c5]; exact sp_bc b5) ⟨_, rfl, rfl, h, FC.rfl⟩
  · subst q; exact k_X6_count_109 (q1 := 14) (z2 := bcn (kN (gK σ))) (by rw [c6]; exact sp_bc b6) ⟨_, rfl, rfl, h, FC.rfl⟩
  · subst q; exact k_X6_count_120 (q1 := 14) ⟨_, rfl, c7, h, FC.rfl⟩
  · subst q; exact k_X6_count_128 (q1 := 54) ⟨_, rfl, v2, h, FC.rfl⟩
  · subst q; exact k_X6_count_136 (q1 := 20) ⟨_, rfl, u2, h, FC.rfl⟩
  · subst q; exact k_X6_count_144 (q1 := 46) ⟨_, rfl, x2, h, FC.rfl⟩
  · subst q; exact k_X6_count_152 ⟨_, rfl, n1, h, FC.rfl⟩
  · obtain ⟨a0, a1, a2, a3, a4, a5, a6, a7, a8, a9, a10⟩ := q
    rw [if_neg a0, if_neg a1, if_neg a2, if_neg a3, if_neg a4, if_neg a5, if_neg a6, if_neg a7, if_neg a8, if_neg a9, if_neg a10]
    exact k_X6_count_157 ⟨_, rfl, cq_same h⟩
theorem c_keep {σ : Sg} (h : RC w σ) (ok : okS σ) : SpI Γ m_X6_keep [vR 0] w (CQ w (fKeep σ)) := by
  obtain ⟨⟨⟨s0, s1, s54, s55, s56, s57, s58, s59, s60, s61⟩, ⟨r0, r4, r5, r6, r7, r8, r9, r10⟩, -⟩, -, -, hC, hU, hE, -⟩ := id h
  have sc := hC.1.1
  have se := hE.1.1
  have o2 := ok.2.2.2.2.2.1.1
  unfold fKeep
  by_cases h1 : (gE σ).1 < 2
  · rw [if_pos h1]
    refine i_X6_keep (k_X6_keep_0 (q1 := 46) (z2 := 0) ((sp_isFull hE (by decide) o2).cast (if_pos (show (gE σ).1 < ((2 : Nat) : Int) by omega))) (fun _ => ?_) (fun q => absurd rfl q))
    refine k_X6_keep_13 (q1 := 46) (q2 := 14) (sp_push hE hC ok.r ok.k (by omega) o2 (by omega)) (fun u hu => ?_)
    obtain ⟨hEu, hF⟩ := hu
    have hp : ∀ a, PcS 46 2 a → 14 ≤ a ∧ a ≤ 53 := fun a ha => by unfold PcS at ha; omega
    have hRC := h.act hF hp (hC.fr hF (fun a a1 a2 => by unfold PcS; omega)) (hU.fr hF (fun a a1 a2 => by unfold PcS; omega) (by omega)) hEu
    obtain ⟨⟨⟨s0u, -⟩, ⟨-, -, -, -, r7u, -⟩, -⟩, -⟩ := id hRC
    have seu := hEu.1.1
    have e2 : wI u 46 2 = (gE σ).1 + 1 := by
      have := hEu.2.2.1
      unfold pushP at this
      rw [if_pos (show (gE σ).1 < ((2 : Nat) : Int) by omega)] at this
      exact this
    exact k_X6_keep_24 (q1 := 46) ⟨_, rfl, e2, hRC, hF.fc (fun a ha => by have := hp a ha; omega)⟩
  · rw [if_neg h1]
    exact i_X6_keep (k_X6_keep_0 (q1 := 46) (z2 := 1) ((sp_isFull hE (by decide) o2).cast (if_neg (show ¬ (gE σ).1 < ((2 : Nat) : Int) by omega))) (fun q => absurd q (by decide)) (fun _ => k_X6_keep_10 ⟨_, rfl, cq_same h⟩))
theorem c_back {σ : Sg} (h : RC w σ) (ok : okS σ) : SpI Γ m_X6_back [vR 0] w (CQ w (fBack σ)) := by
  obtain ⟨⟨⟨s0, s1, s54, s55, s56, s57, s58, s59, s60, s61⟩, ⟨r0, r4, r5, r6, r7, r8, r9, r10⟩, -⟩, -, -, hC, hU, hE, -⟩ := id h
  have sc := hC.1.1
  have su := hU.1.1
  have se := hE.1.1
  have o8 := ok.2.2.2.2.2.1
  unfold fBack
  by_cases h1 : (gE σ).1 = 0
  · rw [if_pos h1]
    refine i_X6_back (k_X6_back_0 (q1 := 46) (q2 := 14) (sp_pop0 (c := 14) hE (by decide) h1) (fun z u hu => ?_))
    obtain ⟨rfl, rfl⟩ := hu
    exact k_X6_back_11 (fun q => absurd rfl q) (fun _ => k_X6_back_14 ⟨_, rfl, cq_same h⟩)
  · rw [if_neg h1]
    have o8a := o8.1
    refine i_X6_back (k_X6_back_0 (q1 := 46) (q2 := 14) (sp_pop hE hC.1 ok.r (fun j a b => (o8.2 j a b).1) (by decide) (by omega) (Or.inl (by decide))) (fun z u hu => ?_))
    obtain ⟨rfl, hEu, hCu, hF⟩ := hu
    have hp : ∀ a, (a = 46 ∨ Pc3 14 a) → 14 ≤ a ∧ a ≤ 53 := fun a ha => by unfold Pc3 at ha; omega
    have hUu := hU.fr hF (fun a a1 a2 => by unfold Pc3; omega) (by omega)
    have hRC := h.act hF hp hCu hUu hEu
    obtain ⟨⟨⟨s0u, -⟩, ⟨-, -, -, r6u, r7u, -⟩, -⟩, -⟩ := id hRC
    have suu := hUu.1.1
    refine k_X6_back_11 (fun _ => ?_) (fun q => absurd q (by decide))
    refine k_X6_back_17 (q1 := 20) (sp_shClear (ρ := gR σ) hUu.1 (by omega) (gU σ).2) (fun v hv => ?_)
    obtain ⟨hUv, hFv⟩ := hv
    have hRv := hRC.act hFv (fun a ha => by omega) (hCu.fr hFv (fun a a1 a2 => by omega)) hUv (hEu.fr hFv (fun a a1 a2 => by omega) (by omega))
    obtain ⟨⟨⟨s0v, -⟩, ⟨-, -, -, r6v, r7v, -⟩, -⟩, -, -, -, -, hEv, -⟩ := id hRv
    have sev := hEv.1.1
    have e2 : wI v 46 2 = (gE σ).1 - 1 := hEv.2.2.1
    exact k_X6_back_24 (q1 := 46) ⟨_, rfl, e2, hRv, (hF.fc (fun a ha => by have := hp a ha; omega)).trans (hFv.fc (fun a ha => by omega))⟩
end
