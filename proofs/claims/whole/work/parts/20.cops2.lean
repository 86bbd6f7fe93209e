def wvA (ρ : Rm) (κ : Kp) : Nat → Int
  | 0 => 61
  | n + 1 => if bit (kH κ) n = 0 then wvA ρ κ n else min (wvA ρ κ n) (mwF ρ (kM κ) 61 (kT κ n) 0 61)
def fWaves (σ : Sg) : Int := if wvA (gR σ) (gK σ) 4 ≤ 60 then wvA (gR σ) (gK σ) 4 else -4
def lgA (ρ : Rm) (κ : Kp) : Nat → Int × Int
  | 0 => (-4, -1)
  | n + 1 => if bit (kH κ) n = 0 then lgA ρ κ n else if mwF ρ (kM κ) 61 (kT κ n) 0 61 ≤ (lgA ρ κ n).2 then lgA ρ κ n else ((n : Int), mwF ρ (kM κ) 61 (kT κ n) 0 61)
def fLongest (σ : Sg) : Int := (lgA (gR σ) (gK σ) 4).1
def soN (F V : Int → Int) (c : Int) : Nat → Nat → Int
  | _, 0 => 1
  | k, n + 1 => if max 0 (F k + c) = V k then soN F V c (k + 1) n else 0
def so (v : Int × (Int → Int) × (Int → Int)) (kind g : Int) : Int := soN v.2.1 v.2.2 (1 - slk kind g 1) 0 v.1.toNat
def mayF (p : Int → Int) : Int → Int → Nat → Int
  | _, acc, 0 => acc
  | v, acc, n + 1 => mayF p (v + 1) (if p v = 0 then acc else zor acc (zshl 1 v)) n
def fMay (σ : Sg) (k : Int) : Int := if k = 0 then mayF (fun v => so (gV σ) v (rS (gR σ) 7)) 0 0 4 else if k = 1 then mayF (fun v => so (gV σ) (rS (gR σ) 6) v) 1 0 9 else -1
section
variable {Γ : Gm} {w : Wd}
theorem monN_ok {ρ : Rm} {κ : Kp} (okr : okR ρ) (ok : okK ρ κ) : ∀ n : Nat, kM κ + n ≤ 5000 → okK ρ (monN ρ κ n) ∧ kM (monN ρ κ n) = kM κ + n
  | 0, _ => ⟨ok, by show kM κ = kM κ + ((0 : Nat) : Int); omega⟩
  | n + 1, h => by
    have q := monN_ok okr ok n (by omega)
    refine ⟨mon_ok okr q.1 (by omega), ?_⟩
    show kM (monN ρ κ n) + 1 = _
    omega
theorem pass_loop {σ : Sg} {n : Int} (h : RC w σ) (okr : okR (gR σ)) {κ : Kp} (ok : okK (gR σ) κ) (hk : gK σ = κ) (hn : 0 ≤ n ∧ n ≤ 60) (hm0 : 0 ≤ kM κ) (hm : kM κ + n ≤ 999) {Q : Option Value → Wd → Prop} (hQ : ∀ u, RC u (σ.1, gR σ, monN (gR σ) κ n.toNat, gU σ, gE σ, gV σ) → Fr (Pc3 14) w u → Q (some (vI (kM κ + n))) u) : ∀ (m k : Nat) (u : Wd), (k : Int) + m = n → RC u (σ.1, gR σ, monN (gR σ) κ k, gU σ, gE σ, gV σ) → Fr (Pc3 14) w u → G Γ m_X6_pass Q 0 0 43 [some (vR 0), some (vI n), some (vI k)] [] u := by
  intro m
  induction m with
  | zero =>
    intro k u hk hR hF
    obtain ⟨⟨⟨s0, -⟩, ⟨-, r4, -⟩, -⟩, -, -, hC, -⟩ := id hR
    have sc := hC.1.1
    have e7 := hC.2.2.2.2.2.2.1
    have hmm := monN_ok okr ok k (by omega)
    refine k_X6_pass_43 (fun _ => k_X6_pass_65 (q1 := 14) ?_) (fun q => absurd q (by omega))
    have hkn : k = n.toNat := by omega
    have e7' : wI u 14 7 = kM (monN (gR σ) κ k) := e7
    have hk2 : (k : Int) = n := by omega
    rw [e7', hmm.2, hk2]
    rw [hkn] at hR
    exact hQ u hR hF
  | succ m ih =>
    intro k u hk hR hF
    obtain ⟨g0, g1, g2, g3, g4, g5, g6⟩ := id hR
    obtain ⟨⟨s0, -⟩, ⟨-, r4, -⟩, -⟩ := id g0
    obtain ⟨rp, dp, hrp, r2, r3, hRr, hD⟩ := id g1
    have sc := g3.1.1
    have hmm := monN_ok okr ok k (by omega)
    refine k_X6_pass_43 (fun q => absurd q (by omega)) (fun _ => k_X6_pass_48 (q1 := 14) (q2 := rp) (sp_passMonth g3 hRr okr hmm.1) (fun v hv => k_X6_pass_59 ?_))
    have hh := ih (k + 1) v (by omega) (hR.act hv.2 (fun a ha => by unfold Pc3 at ha; omega) hv.1 (g4.fr hv.2 (fun a a1 a2 => by unfold Pc3; omega) (by omega)) (g5.fr hv.2 (fun a a1 a2 => by unfold Pc3; omega) (by omega))) (hF.trans hv.2)
    rw [Int.natCast_add] at hh
    exact hh
theorem c_pass {σ : Sg} {n : Int} (h : RC w σ) (ok : okS σ) (hn : sm n) : SpI Γ m_X6_pass [vR 0, vI n] w (CQ w (fPass σ n)) := by
  obtain ⟨⟨⟨s0, s1, s54, s55, s56, s57, s58, s59, s60, s61⟩, ⟨r0, r4, r5, r6, r7, r8, r9, r10⟩, -⟩, -, -, hC, hU, -⟩ := id h
  have sc := hC.1.1
  have su := hU.1.1
  have e7 : wI w 14 7 = kM (gK σ) := hC.2.2.2.2.2.2.1
  have hm9 := ok.2.2.2.1.2
  have hk := ok.k.2.2.2.2.2.2
  unfold fPass
  by_cases h1 : 1 ≤ n ∧ n ≤ 60
  · rw [if_pos h1]
    refine i_X6_pass (k_X6_pass_0 (sp_within1 h1 hn (by omega) (by omega)) (fun _ => ?_) (fun q => absurd q (by decide)))
    by_cases h2 : kM (gK σ) + n ≤ 999
    · rw [if_pos h2]
      refine k_X6_pass_12 (q1 := 14) (fun _ => ?_) (fun q => absurd q (by omega))
      refine k_X6_pass_30 (q1 := 20) (q2 := 14) (push_act h ok) (fun u hu => k_X6_pass_41 ?_)
      exact pass_loop (σ := noteS σ (gK σ)) (κ := gK σ) hu.1 ok.r ok.k rfl (by omega) (by omega) h2 (fun v hv hF => ⟨_, rfl, rfl, hv, (hu.2.fc (fun a ha => by unfold PcS at ha; omega)).trans (hF.fc (fun a ha => by unfold Pc3 at ha; omega))⟩) n.toNat 0 u (by omega) hu.1 Fr.rfl
    · rw [if_neg h2]
      exact k_X6_pass_12 (q1 := 14) (fun q => absurd q (by omega)) (fun _ => k_X6_pass_27 ⟨_, rfl, cq_same h⟩)
  · rw [if_neg h1]
    exact i_X6_pass (k_X6_pass_0 (sp_within0 h1 hn (by omega) (by omega)) (fun q => absurd rfl q) (fun _ => k_X6_pass_10 ⟨_, rfl, cq_same h⟩))
theorem c_undo {σ : Sg} (h : RC w σ) (ok : okS σ) : SpI Γ m_X6_undo [vR 0] w (CQ w (fUndo σ)) := by
  obtain ⟨⟨⟨s0, s1, s54, s55, s56, s57, s58, s59, s60, s61⟩, ⟨r0, r4, r5, r6, r7, r8, r9, r10⟩, -⟩, -, -, hC, hU, hE, -⟩ := id h
  have sc := hC.1.1
  have su := hU.1.1
  have o8 := ok.2.2.2.2.1
  unfold fUndo
  by_cases h1 : (gU σ).1 = 0
  · rw [if_pos h1]
    refine i_X6_undo (k_X6_undo_0 (q1 := 20) (q2 := 14) (sp_pop0 (c := 14) hU (by decide) h1) (fun z u hu => ?_))
    obtain ⟨rfl, rfl⟩ := hu
    exact k_X6_undo_11 (fun _ => k_X6_undo_24 ⟨_, rfl, cq_same h⟩) (fun q => absurd rfl q)
  · rw [if_neg h1]
    have o8a := o8.1
    refine i_X6_undo (k_X6_undo_0 (q1 := 20) (q2 := 14) (sp_pop hU hC.1 ok.r (fun j a b => (o8.2 j a b).1) (by decide) (by omega) (Or.inl (by decide))) (fun z u hu => ?_))
    obtain ⟨rfl, hUu, hCu, hF⟩ := hu
    have hp : ∀ a, (a = 20 ∨ Pc3 14 a) → 14 ≤ a ∧ a ≤ 53 := fun a ha => by unfold Pc3 at ha; omega
    have hRC := h.act hF hp hCu hUu (hE.fr hF (fun a a1 a2 => by unfold Pc3; omega) (by omega))
    obtain ⟨⟨⟨s0u, -⟩, ⟨-, -, -, r6u, -⟩, -⟩, -⟩ := id hRC
    have suu := hUu.1.1
    have e2 : wI u 20 2 = (gU σ).1 - 1 := hUu.2.2.1
    refine k_X6_undo_11 (fun q => absurd q (by decide)) (fun _ => k_X6_undo_14 (q1 := 20) ⟨_, rfl, e2, hRC, hF.fc (fun a ha => by have := hp a ha; omega)⟩)
theorem c_kickFor {σ : Sg} {i t : Int} (h : RC w σ) (ok : okS σ) (hi : sm i) (ht : sm t) : SpI Γ m_X6_kickFor [vR 0, vI i, vI t] w (CQ w (fKickFor σ i t, σ)) := by
  obtain ⟨⟨⟨s0, s1, s54, s55, s56, s57, s58, s59, s60, s61⟩, ⟨r0, r4, r5, r6, r7, r8, r9, r10⟩, -⟩, ⟨rp, dp, hrp, r2, r3, hR, hD⟩, -, hC, -⟩ := id h
  have sc := hC.1.1
  unfold fKickFor
  by_cases h1 : 0 ≤ i ∧ i ≤ 3
  · have hi4 : 0 ≤ i ∧ i < 4 := by omega
    refine i_X6_kickFor (k_X6_kickFor_0 (sp_isWall1 h1) (fun q => absurd q (by decide)) (fun _ => ?_))
    by_cases h2 : 0 ≤ t ∧ t ≤ 30
    · rw [if_pos ⟨h1, h2⟩]
      refine k_X6_kickFor_7 (sp_within1 h2 ht (by omega) (by omega)) (fun _ => ?_) (fun q => absurd q (by decide))
      by_cases h3 : freeK (gK σ) i
      · rw [if_pos h3]
        exact k_X6_kickFor_19 (q1 := 14) (sp_isFree1 hC ok.k hi4 h3) (fun q => absurd q (by decide)) (fun _ => k_X6_kickFor_30 (q1 := 14) (q2 := rp) (sp_leastKick hC hR ok.r ok.k hi4 h2) ⟨_, rfl, cq_same h⟩)
      · rw [if_neg h3]
        exact k_X6_kickFor_19 (q1 := 14) (sp_isFree0 hC ok.k hi4 h3) (fun _ => k_X6_kickFor_46 ⟨_, rfl, cq_same h⟩) (fun q => absurd rfl q)
    · rw [if_neg (fun q => h2 q.2)]
      exact k_X6_kickFor_7 (sp_within0 h2 ht (by omega) (by omega)) (fun q => absurd rfl q) (fun _ => k_X6_kickFor_17 ⟨_, rfl, cq_same h⟩)
  · rw [if_neg (fun q => h1 q.1)]
    exact i_X6_kickFor (k_X6_kickFor_0 (sp_isWall0 hi h1) (fun _ => k_X6_kickFor_17 ⟨_, rfl, cq_same h⟩) (fun q => absurd rfl q))
theorem mw61 {ρ : Rm} {m t : Int} : 0 ≤ mwF ρ m 61 t 0 61 ∧ mwF ρ m 61 t 0 61 ≤ 61 := by
  rcases mwF_cases (ρ := ρ) (m := m) 61 t 0 with h | ⟨v, h1, h2, h3⟩
  · rw [h]; decide
  · rw [h3]; omega
theorem wvA_r {ρ : Rm} {κ : Kp} : ∀ n : Nat, 0 ≤ wvA ρ κ n ∧ wvA ρ κ n ≤ 61
  | 0 => by show (0 : Int) ≤ 61 ∧ (61 : Int) ≤ 61; decide
  | n + 1 => by
    have h := wvA_r (ρ := ρ) (κ := κ) n
    have h2 := mw61 (ρ := ρ) (m := kM κ) (t := kT κ n)
    unfold wvA
    split
    · exact h
    · omega
theorem c_waves {σ : Sg} (h : RC w σ) (ok : okS σ) : SpI Γ m_X6_waves [vR 0] w (CQ w (fWaves σ, σ)) := by
  obtain ⟨⟨⟨s0, s1, s54, s55, s56, s57, s58, s59, s60, s61⟩, ⟨r0, r4, r5, r6, r7, r8, r9, r10⟩, -⟩, ⟨rp, dp, hrp, r2, r3, hR, hD⟩, -, hC, -⟩ := id h
  have sc := hC.1.1
  have key : ∀ n k : Nat, k + n = 4 → G Γ m_X6_waves (fun v u => ∃ z, v = some (vI z) ∧ CQ w (fWaves σ, σ) z u) 0 0 5 [some (vR 0), some (vI (wvA (gR σ) (gK σ) k)), some (vI k)] [] w := by
    intro n
    induction n with
    | zero =>
      intro k hk
      have : k = 4 := by omega
      subst this
      have hw := wvA_r (ρ := gR σ) (κ := gK σ) 4
      refine k_X6_waves_5 (fun _ => k_X6_waves_44 (fun q => k_X6_waves_55 ⟨_, rfl, ?_⟩) (fun q => k_X6_waves_50 ⟨_, rfl, ?_⟩)) (fun q => absurd q (by omega))
      · have e : fWaves σ = wvA (gR σ) (gK σ) 4 := if_pos q
        rw [e]; exact cq_same h
      · have e : fWaves σ = -4 := if_neg q
        rw [e]; exact cq_same h
    | succ n ih =>
      intro k hk
      have hw := wvA_r (ρ := gR σ) (κ := gK σ) k
      have hmw := mw61 (ρ := gR σ) (m := kM (gK σ)) (t := kT (gK σ) k)
      have hh := ih (k + 1) (by omega)
      rw [Int.natCast_add] at hh
      have hb := bit_r ok.k.2.2.2.2.1 (i := (k : Int)) (by omega)
      refine k_X6_waves_5 (fun q => absurd q (by omega)) (fun _ => k_X6_waves_10 (q1 := 14) (sp_isHooked hC ok.k (by omega)) (fun q => k_X6_waves_38 ?_) (fun q => k_X6_waves_21 (q1 := 14) (q2 := rp) (sp_monthsToWave hC hR ok.r ok.k (by omega)) ?_))
      · have e : wvA (gR σ) (gK σ) (k + 1) = wvA (gR σ) (gK σ) k := if_pos q
        rw [e] at hh; exact hh
      · have e : wvA (gR σ) (gK σ) (k + 1) = min (wvA (gR σ) (gK σ) k) (mwF (gR σ) (kM (gK σ)) 61 (kT (gK σ) k) 0 61) := if_neg q
        rw [e] at hh; exact hh
  exact i_X6_waves (k_X6_waves_0 (key 4 0 rfl))
theorem lgA_r {ρ : Rm} {κ : Kp} : ∀ n : Nat, n ≤ 4 → (-4 ≤ (lgA ρ κ n).1 ∧ (lgA ρ κ n).1 ≤ 4) ∧ -1 ≤ (lgA ρ κ n).2 ∧ (lgA ρ κ n).2 ≤ 61
  | 0, _ => by show (-4 ≤ (-4 : Int) ∧ (-4 : Int) ≤ 4) ∧ -1 ≤ (-1 : Int) ∧ (-1 : Int) ≤ 61; decide
  | n + 1, hn => by
    have h := lgA_r (ρ := ρ) (κ := κ) n (by omega)
    have h2 := mw61 (ρ := ρ) (m := kM κ) (t := kT κ n)
    unfold lgA
    split
    · exact h
    · split
      · exact h
      · refine ⟨⟨?_, ?_⟩, ?_, ?_⟩ <;> simp only <;> omega
theorem c_longest {σ : Sg} (h : RC w σ) (ok : okS σ) : SpI Γ m_X6_longest [vR 0] w (CQ w (fLongest σ, σ)) := by
  obtain ⟨⟨⟨s0, s1, s54, s55, s56, s57, s58, s59, s60, s61⟩, ⟨r0, r4, r5, r6, r7, r8, r9, r10⟩, -⟩, ⟨rp, dp, hrp, r2, r3, hR, hD⟩, -, hC, -⟩ := id h
  have sc := hC.1.1
  have key : ∀ n k : Nat, k + n = 4 → G Γ m_X6_longest (fun v u => ∃ z, v = some (vI z) ∧ CQ w (fLongest σ, σ) z u) 0 0 7 [some (vR 0), some (vI (lgA (gR σ) (gK σ) k).1), some (vI (lgA (gR σ) (gK σ) k).2), some (vI k)] [] w := by
    intro n
    induction n with
    | zero =>
      intro k hk
      have : k = 4 := by omega
      subst this
      exact k_X6_longest_7 (fun _ => k_X6_longest_60 ⟨_, rfl, cq_same h⟩) (fun q => absurd q (by omega))
    | succ n ih =>
      intro k hk
      have hw := lgA_r (ρ := gR σ) (κ := gK σ) k (by omega)
      have hmw := mw61 (ρ := gR σ) (m := kM (gK σ)) (t := kT (gK σ) k)
      have hh := ih (k + 1) (by omega)
      rw [Int.natCast_add] at hh
      have hb := bit_r ok.k.2.2.2.2.1 (i := (k : Int)) (by omega)
      have hmt := sp_monthsToWave (Γ := Γ) (w := w) (i := (k : Int)) hC hR ok.r ok.k (by omega)
      refine k_X6_longest_7 (fun q => absurd q (by omega)) (fun _ => k_X6_longest_12 (q1 := 14) (sp_isHooked hC ok.k (by omega)) (fun q => k_X6_longest_54 ?_) (fun q => k_X6_longest_23 (q1 := 14) (q2 := rp) hmt (fun q2 => k_X6_longest_54 ?_) (fun q2 => k_X6_longest_39 (q1 := 14) (q2 := rp) hmt ?_)))
      · have e : lgA (gR σ) (gK σ) (k + 1) = lgA (gR σ) (gK σ) k := if_pos q
        rw [e] at hh; exact hh
      · have e : lgA (gR σ) (gK σ) (k + 1) = lgA (gR σ) (gK σ) k := (if_neg q).trans (if_pos q2)
        rw [e] at hh; exact hh
      · have e : lgA (gR σ) (gK σ) (k + 1) = ((k : Int), mwF (gR σ) (kM (gK σ)) 61 (kT (gK σ) k) 0 61) := (if_neg q).trans (if_neg q2)
        rw [e] at hh; exact hh
  exact i_X6_longest (k_X6_longest_0 (key 4 0 rfl))
/-- only what was seen has changed -/
theorem RC.sees {P : Nat → Prop} {w u : Wd} {σ : Sg} {v : Int × (Int → Int) × (Int → Int)} (h : RC w σ) (g : Fr P w u) (hp : ∀ a, P a → 54 ≤ a ∧ a ≤ 56) (hv : SiC u v) : RC u (σ.1, gR σ, gK σ, gU σ, gE σ, v) := by
  obtain ⟨h0, h1, h2, h3, h4, h5, h6⟩ := h
  have hn : ∀ a, ¬ (54 ≤ a ∧ a ≤ 56) → ¬ P a := fun a q r => q (hp a r)
  exact ⟨h0.fr g, h1.fr g (fun a a1 a2 => hn a (by omega)), h2.fr g ⟨hn 0 (by omega), hn 1 (by omega)⟩, h3.fr g (fun a a1 a2 => hn a (by omega)), h4.fr g (fun a a1 a2 => hn a (by omega)) (by omega), h5.fr g (fun a a1 a2 => hn a (by omega)) (by omega), hv⟩
theorem c_seen {σ : Sg} {f v : Int} (h : RC w σ) (ok : okS σ) (hf : sm f) (hv : sm v) : SpI Γ m_X6_seen [vR 0, vI f, vI v] w (CQ w (fSeen σ f v)) := by
  obtain ⟨⟨⟨s0, s1, s54, s55, s56, s57, s58, s59, s60, s61⟩, ⟨r0, r4, r5, r6, r7, r8, r9, r10⟩, ⟨t0, t1, -⟩, -⟩, -, -, -, -, -, hS⟩ := id h
  have e2 : wI w 54 2 = (gV σ).1 := hS.1
  have oV := ok.2.2.2.2.2.2.1
  unfold fSeen
  by_cases h1 : 0 ≤ f ∧ f ≤ 20
  · refine i_X6_seen (k_X6_seen_0 (sp_within1 h1 hf (by omega) (by omega)) (fun q => absurd q (by decide)) (fun _ => ?_))
    by_cases h2 : 0 ≤ v ∧ v ≤ 40
    · rw [if_pos ⟨h1, h2⟩]
      refine k_X6_seen_10 (sp_within1 h2 hv (by omega) (by omega)) (fun _ => ?_) (fun q => absurd q (by decide))
      by_cases h3 : (gV σ).1 < 6
      · rw [if_pos h3]
        have hadd : SpI Γ m_X5_add [vR 54, vI f, vI v] w (fun z u => z = 1 ∧ SiC u ((gV σ).1 + 1, upI (gV σ).2.1 (gV σ).1 f, upI (gV σ).2.2 (gV σ).1 v) ∧ Fr (fun a => 54 ≤ a ∧ a ≤ 56) w u) := by
          refine i_X5_add (k_X5_add_0 (fun _ => ?_) (fun q => absurd q (by omega)))
          refine k_X5_add_11 (q1 := 55) (sp_put (n := 6) s55 (by omega) (by omega)) (fun u hu => ?_)
          subst hu
          refine k_X5_add_23 (q1 := 56) (sp_put (n := 6) s56 (by omega) (by rw [wI_st_ne (by decide)]; omega)) (fun u hu => ?_)
          subst hu
          have e3 : wI (stI w 55 (wI w 54 2) f) 54 2 = wI w 54 2 := wI_st_ne (by decide)
          have e4 : ∀ k, wI (stI (stI w 55 (wI w 54 2) f) 56 (wI (stI w 55 (wI w 54 2) f) 54 2) v) 54 k = wI w 54 k := fun k => by rw [wI_st_ne (by decide), wI_st_ne (by decide)]
          refine k_X5_add_35 ⟨_, rfl, rfl, ⟨by rw [wI_hit, e4, e2], fun k k0 k1 => ?_⟩, ((Fr.st (P := fun a => 54 ≤ a ∧ a ≤ 56) ⟨by omega, by omega⟩).trans (Fr.st (P := fun a => 54 ≤ a ∧ a ≤ 56) ⟨by omega, by omega⟩)).trans (Fr.st (P := fun a => 54 ≤ a ∧ a ≤ 56) ⟨by omega, by omega⟩)⟩
          have k1' : k < (gV σ).1 + 1 := k1
          rw [wI_st_ne (by decide), wI_st_ne (by decide), e3, e2, wI_st_ne (a := 56) (by decide)]
          show wI _ 55 k = (if k = (gV σ).1 then f else (gV σ).2.1 k) ∧ wI _ 56 k = (if k = (gV σ).1 then v else (gV σ).2.2 k)
          by_cases e : k = (gV σ).1
          · rw [if_pos e, if_pos e, e, wI_hit, wI_hit]; exact ⟨rfl, rfl⟩
          · rw [if_neg e, if_neg e, wI_skip e, wI_skip e, wI_st_ne (a := 56) (by decide)]
            exact hS.2 k k0 (by show k < (gV σ).1; omega)
        refine k_X6_seen_22 (q1 := 54) hadd (fun z u hu => ?_)
        obtain ⟨rfl, hSu, hF⟩ := hu
        have hRC := h.sees hF (fun a ha => ha) hSu
        obtain ⟨⟨⟨s0u, -, s54u, -⟩, ⟨-, -, -, -, -, r8u, -⟩, -⟩, -⟩ := id hRC
        exact k_X6_seen_31 (fun q => absurd q (by decide)) (fun _ => k_X6_seen_34 (q1 := 54) ⟨_, rfl, hSu.1, hRC, hF.fc (fun a ha => by omega)⟩)
      · rw [if_neg h3]
        have hadd : SpI Γ m_X5_add [vR 54, vI f, vI v] w (fun z u => z = 0 ∧ u = w) := i_X5_add (k_X5_add_0 (fun q => absurd q (by omega)) (fun _ => k_X5_add_9 ⟨_, rfl, rfl, rfl⟩))
        refine k_X6_seen_22 (q1 := 54) hadd (fun z u hu => ?_)
        obtain ⟨rfl, rfl⟩ := hu
        exact k_X6_seen_31 (fun _ => k_X6_seen_44 ⟨_, rfl, cq_same h⟩) (fun q => absurd rfl q)
    · rw [if_neg (fun q => h2 q.2)]
      exact k_X6_seen_10 (sp_within0 h2 hv (by omega) (by omega)) (fun q => absurd rfl q) (fun _ => k_X6_seen_20 ⟨_, rfl, cq_same h⟩)
  · rw [if_neg (fun q => h1 q.1)]
    exact i_X6_seen (k_X6_seen_0 (sp_within0 h1 hf (by omega) (by omega)) (fun _ => k_X6_seen_20 ⟨_, rfl, cq_same h⟩) (fun q => absurd rfl q))
theorem sp_siClear (s54 : sh w 54 = some (.inr 5)) (F : (Int → Int) × (Int → Int)) : SpV Γ m_X5_clear [vR 54] w (fun u => SiC u (0, F) ∧ Fr (fun a => a = 54) w u) := by
  refine i_X5_clear (k_X5_clear_0 ⟨rfl, ⟨by rw [wI_hit], fun k k0 k1 => ?_⟩, Fr.st rfl⟩)
  have k1' : k < 0 := k1
  omega
theorem c_forget {σ : Sg} (h : RC w σ) : SpI Γ m_X6_forget [vR 0] w (CQ w (fForget σ)) := by
  obtain ⟨⟨⟨s0, s1, s54, s55, s56, s57, s58, s59, s60, s61⟩, ⟨r0, r4, r5, r6, r7, r8, r9, r10⟩, ⟨t0, t1, -⟩, -⟩, -, -, -, -, -, hS⟩ := id h
  refine i_X6_forget (k_X6_forget_0 (q1 := 54) (sp_siClear s54 (gV σ).2) (fun u hu => k_X6_forget_15 ⟨_, rfl, hS.1, h.sees hu.2 (fun a ha => by omega) hu.1, hu.2.fc (fun a ha => by omega)⟩))
end
