def dr (z k : Int) : Int := Int.tdiv (Int.tmod ((((7919 * z) + (6151 * k)) + 1) * (((7919 * z) + (6151 * k)) + 1)) 65521) 2
def yrK (ρ : Rm) (z : Int) (κ : Kp) : Nat → Kp
  | 0 => κ
  | n + 1 => stepK ρ (yrK ρ z κ n) (dr z n)
def fYear (σ : Sg) (z n k : Int) : Int := if (0 ≤ z ∧ z ≤ 9999) ∧ (1 ≤ n ∧ n ≤ 40) ∧ 0 ≤ k ∧ k ≤ 1 then (if covK (gK σ) = rS (gR σ) 0 then (if k = 0 then bcn (kN (yrK (gR σ) z (gK σ) n.toNat)) else psum (kT (yrK (gR σ) z (gK σ) n.toNat)) 4) else -2) else -1
section
variable {Γ : Gm} {w : Wd}
theorem dr_r {z k : Int} (hz : 0 ≤ z ∧ z ≤ 9999) (hk : 0 ≤ k ∧ k < 40) : sm8 ((((7919 * z) + (6151 * k)) + 1) * (((7919 * z) + (6151 * k)) + 1)) ∧ sm8 (Int.tmod ((((7919 * z) + (6151 * k)) + 1) * (((7919 * z) + (6151 * k)) + 1)) 65521) ∧ (sm (Int.tdiv (Int.tmod ((((7919 * z) + (6151 * k)) + 1) * (((7919 * z) + (6151 * k)) + 1)) 65521) 2)) ∧ 0 ≤ dr z k ∧ dr z k < 32768 := by
  unfold dr
  have hx : 0 ≤ ((7919 * z) + (6151 * k)) + 1 ∧ ((7919 * z) + (6151 * k)) + 1 ≤ 100000000 := by omega
  generalize ((7919 * z) + (6151 * k)) + 1 = x at hx ⊢
  have h1 := Int.mul_nonneg hx.1 hx.1
  have h2 := Int.mul_le_mul hx.2 hx.2 hx.1 (by decide)
  generalize x * x = y at h1 h2 ⊢
  rw [Int.tmod_eq_emod_of_nonneg h1]
  have h3 := Int.emod_nonneg y (show (65521 : Int) ≠ 0 by decide)
  have h4 := Int.emod_lt_of_pos y (show (0 : Int) < 65521 by decide)
  generalize y % 65521 = t at h3 h4 ⊢
  rw [Int.tdiv_eq_ediv_of_nonneg h3]
  have h5 : (100000000 : Int) * 100000000 = 10000000000000000 := by decide
  rw [h5] at h2
  refine ⟨⟨by omega, by omega⟩, ⟨by omega, by omega⟩, ⟨by omega, by omega⟩, by omega, by omega⟩
theorem dr_s {d : Int} (h : 0 ≤ d ∧ d < 32768) : sm (d.tmod 4) ∧ sm (d.tdiv 4) ∧ sm ((d.tdiv 4).tmod 5) ∧ sm (d.tdiv 32) ∧ sm ((d.tdiv 32).tmod 16) ∧ sm (d.tdiv 512) ∧ sm ((d.tdiv 512).tmod 3) ∧ (0 ≤ d.tmod 4 ∧ d.tmod 4 < 4) ∧ 0 ≤ (d.tdiv 32).tmod 16 ∧ (d.tdiv 32).tmod 16 ≤ 20 := by
  have h0 := h.1
  rw [Int.tdiv_eq_ediv_of_nonneg h0, Int.tdiv_eq_ediv_of_nonneg h0, Int.tdiv_eq_ediv_of_nonneg h0, Int.tmod_eq_emod_of_nonneg h0, Int.tmod_eq_emod_of_nonneg (show 0 ≤ d / 4 by omega), Int.tmod_eq_emod_of_nonneg (show 0 ≤ d / 32 by omega), Int.tmod_eq_emod_of_nonneg (show 0 ≤ d / 512 by omega)]
  refine ⟨⟨by omega, by omega⟩, ⟨by omega, by omega⟩, ⟨by omega, by omega⟩, ⟨by omega, by omega⟩, ⟨by omega, by omega⟩, ⟨by omega, by omega⟩, ⟨by omega, by omega⟩, ⟨by omega, by omega⟩, by omega, by omega⟩
theorem yr_ok {ρ : Rm} {κ : Kp} {z : Int} (okr : okR ρ) (ok : okK ρ κ) (hm : kM κ ≤ 999) (hz : 0 ≤ z ∧ z ≤ 9999) : ∀ n : Nat, n ≤ 40 → okK ρ (yrK ρ z κ n) ∧ kM (yrK ρ z κ n) ≤ kM κ + n
  | 0, _ => ⟨ok, by show kM κ ≤ kM κ + ((0 : Nat) : Int); omega⟩
  | n + 1, h => by
    have q := yr_ok okr ok hm hz n (by omega)
    have r := stepK_ok okr q.1 (d := dr z n) ⟨(dr_r (k := (n : Int)) hz (by omega)).2.2.2.1, (dr_r (k := (n : Int)) hz (by omega)).2.2.2.2⟩ (by omega)
    refine ⟨r.1, ?_⟩
    show kM (stepK ρ (yrK ρ z κ n) (dr z n)) ≤ _
    omega
theorem RC.trial {u : Wd} {σ : Sg} (h : RC w σ) (g : Fr (Pc3 17) w u) : RC u σ := by
  obtain ⟨h0, h1, h2, h3, h4, h5, h6⟩ := id h
  exact h.act g (fun a ha => by unfold Pc3 at ha; omega) (h3.fr g (fun a a1 a2 => by unfold Pc3; omega)) (h4.fr g (fun a a1 a2 => by unfold Pc3; omega) (by omega)) (h5.fr g (fun a a1 a2 => by unfold Pc3; omega) (by omega))
theorem psum4 {f : Int → Int} {M : Int} : ∀ n : Nat, (∀ k : Nat, k < n → 0 ≤ f k ∧ f k ≤ M) → 0 ≤ psum f n ∧ psum f n ≤ n * M
  | 0, _ => by show (0 : Int) ≤ 0 ∧ (0 : Int) ≤ ((0 : Nat) : Int) * M; simp
  | n + 1, h => by
    have q := psum4 n (fun k hk => h k (by omega))
    have r := h n (by omega)
    show 0 ≤ psum f n + f n ∧ psum f n + f n ≤ ((n + 1 : Nat) : Int) * M
    rw [Int.natCast_add, Int.add_mul]
    omega
theorem c_year {σ : Sg} {z n k : Int} (h : RC w σ) (ok : okS σ) (hz : sm z) (hn : sm n) (hk : sm k) : SpI Γ m_X6_year [vR 0, vI z, vI n, vI k] w (CQ w (fYear σ z n k, σ)) := by
  obtain ⟨⟨⟨s0, s1, s54, s55, s56, s57, s58, s59, s60, s61⟩, ⟨r0, r4, r5, r6, r7, r8, r9, r10⟩, -, c17⟩, ⟨rp, dp, hrp, r2, r3, hR, hD⟩, -, hC, -⟩ := id h
  have sc := hC.1.1
  have hm9 := ok.2.2.2.1.2
  have s17 := c17.1
  unfold fYear
  by_cases h1 : 0 ≤ z ∧ z ≤ 9999
  · refine i_X6_year (k_X6_year_0 (sp_within1 h1 hz (by omega) (by omega)) (fun q => absurd q (by decide)) (fun _ => ?_))
    by_cases h2 : 1 ≤ n ∧ n ≤ 40
    · refine k_X6_year_11 (sp_within1 h2 hn (by omega) (by omega)) (fun q => absurd q (by decide)) (fun _ => ?_)
      by_cases h3 : 0 ≤ k ∧ k ≤ 1
      · rw [if_pos ⟨h1, h2, h3⟩]
        refine k_X6_year_21 (sp_within1 h3 hk (by omega) (by omega)) (fun _ => ?_) (fun q => absurd q (by decide))
        by_cases h4 : covK (gK σ) = rS (gR σ) 0
        · rw [if_pos h4]
          refine k_X6_year_32 (q1 := 14) (q2 := rp) (sp_isCovered1 hC hR ok.r ok.k h4) (fun _ => ?_) (fun q => absurd q (by decide))
          refine k_X6_year_49 (q1 := 17) (q2 := 14) (sp_copyFrom c17 hC ok.r ok.k (by omega)) (fun u hu => k_X6_year_60 ?_)
          have key : ∀ (m j : Nat) (v : Wd), (j : Int) + m = n → CarC v 17 (gR σ) (yrK (gR σ) z (gK σ) j) → Fr (Pc3 17) w v → G Γ m_X6_year (fun x v => ∃ y, x = some (vI y) ∧ CQ w (if k = 0 then bcn (kN (yrK (gR σ) z (gK σ) n.toNat)) else psum (kT (yrK (gR σ) z (gK σ) n.toNat)) 4, σ) y v) 0 0 63 [some (vR 0), some (vI z), some (vI n), some (vI k), some (vI j)] [] v := by
            intro m
            induction m with
            | zero =>
              intro j v hj hCv hF
              have hRv := h.trial hF
              obtain ⟨⟨⟨s0v, -⟩, ⟨-, -, r5v, -⟩, -⟩, -⟩ := id hRv
              have scv := hCv.1.1
              have hj2 : n.toNat = j := by omega
              rw [hj2]
              have hy := (yr_ok (z := z) ok.r ok.k hm9 h1 j (by omega)).1
              have hb := bcn_r _ (r16 hy.2.2.2.2.2.1)
              have ht := psum4 (f := kT (yrK (gR σ) z (gK σ) j)) (M := 30) 4 (fun i hi => by have := hy.2.2.2.1 i (by omega) (by omega); omega)
              have e6 : wI v 17 6 = kN (yrK (gR σ) z (gK σ) j) := hCv.2.2.2.2.2.1
              have hFC : FC w v := hF.fc (fun a ha => by unfold Pc3 at ha; omega)
              refine k_X6_year_63 (fun _ => k_X6_year_92 (fun q => ?_) (fun q => ?_)) (fun q => absurd q (by omega))
              · rw [if_neg q]
                exact k_X6_year_109 (q1 := 17) (sp_tightAll hCv) ⟨_, rfl, rfl, hRv, hFC⟩
              · rw [if_pos q]
                exact k_X6_year_96 (q1 := 17) (z2 := bcn (kN (yrK (gR σ) z (gK σ) j))) (by rw [e6]; exact sp_bc hy.2.2.2.2.2.1) ⟨_, rfl, rfl, hRv, hFC⟩
            | succ m ih =>
              intro j v hj hCv hF
              have hRv := h.trial hF
              obtain ⟨⟨⟨s0v, -⟩, ⟨-, -, r5v, -⟩, -⟩, -⟩ := id hRv
              have scv := hCv.1.1
              have r2v : wR v 0 2 = vR rp := by rw [hF.2.2]; exact r2
              have hRm := hR.fr hF (fun a a1 a2 => by unfold Pc3; rcases hrp with q | q <;> omega)
              have hd := dr_r (z := z) (k := (j : Int)) h1 (by omega)
              have hy := yr_ok (z := z) ok.r ok.k hm9 h1 j (by omega)
              obtain ⟨d1, d2, d3, d4, d5⟩ := id hd
              have hdr : SpP Γ m_X6_draw [vI z, vI j] v (dr z j) := i_X6_draw (k_X6_draw_0 ⟨_, rfl, rfl, rfl⟩)
              refine k_X6_year_63 (fun q => absurd q (by omega)) (fun _ => k_X6_year_69 (q1 := 17) (q2 := rp) hdr (sp_takeStep hCv hRm ok.r hy.1 ⟨d4, d5⟩ (by omega) (by rcases hrp with q | q <;> omega)) (fun x hx => k_X6_year_86 ?_))
              have hh := ih (j + 1) x (by omega) hx.1 (hF.trans hx.2)
              rw [Int.natCast_add] at hh
              exact hh
          exact key n.toNat 0 u (by omega) hu.1 hu.2
        · rw [if_neg h4]
          exact k_X6_year_32 (q1 := 14) (q2 := rp) (sp_isCovered0 hC hR ok.r ok.k h4) (fun q => absurd rfl q) (fun _ => k_X6_year_46 ⟨_, rfl, cq_same h⟩)
      · rw [if_neg (fun q => h3 q.2.2)]
        exact k_X6_year_21 (sp_within0 h3 hk (by omega) (by omega)) (fun q => absurd rfl q) (fun _ => k_X6_year_30 ⟨_, rfl, cq_same h⟩)
    · rw [if_neg (fun q => h2 q.2.1)]
      exact k_X6_year_11 (sp_within0 h2 hn (by omega) (by omega)) (fun _ => k_X6_year_30 ⟨_, rfl, cq_same h⟩) (fun q => absurd rfl q)
  · rw [if_neg (fun q => h1 q.1)]
    exact i_X6_year (k_X6_year_0 (sp_within0 h1 hz (by omega) (by omega)) (fun _ => k_X6_year_30 ⟨_, rfl, cq_same h⟩) (fun q => absurd rfl q))
theorem m_year {σ : Sg} {z n k : Int} (h : RM w σ) (ok : okS σ) (hz : sm z) (hn : sm n) (hk : sm k) : SpI Γ m_X7_year [vR 63, vI z, vI n, vI k] w (MR w (fYear σ z n k, σ)) := by
  obtain ⟨hM, hT, hA, hU, hE, hV⟩ := id h
  obtain ⟨⟨c0, c1, c2, c3, c4, c5, c6, c7, c8, c9, c10, c11, c12, c13, c14⟩, d1, d2, d3, d4, d5, d6, d7, d8, d9, d10, d11, d12, d13, d14⟩ := id hM.1
  have hm9 := ok.2.2.2.1.2
  unfold fYear
  by_cases h1 : 0 ≤ z ∧ z ≤ 9999
  · refine i_X7_year (k_X7_year_0 (sp_in1 h1 hz (by omega) (by omega)) (fun q => absurd q (by decide)) (fun _ => ?_))
    by_cases h2 : 1 ≤ n ∧ n ≤ 40
    · refine k_X7_year_11 (sp_in1 h2 hn (by omega) (by omega)) (fun q => absurd q (by decide)) (fun _ => ?_)
      by_cases h3 : 0 ≤ k ∧ k ≤ 1
      · rw [if_pos ⟨h1, h2, h3⟩]
        refine k_X7_year_21 (sp_in1 h3 hk (by omega) (by omega)) (fun _ => ?_) (fun q => absurd q (by decide))
        by_cases h4 : covK (gK σ) = rS (gR σ) 0
        · rw [if_pos h4]
          refine k_X7_year_32 (sp_isCoveredM1 hM hA ok.r ok.k h4) (fun _ => ?_) (fun q => absurd q (by decide))
          refine k_X7_year_42 (sp_begin hM.1 hA ok.r ok.k) (fun u hu => k_X7_year_46 ?_)
          have key : ∀ (m j : Nat) (v : Wd) (o5 o6 o7 o8 : Option Value), (j : Int) + m = n → CarA v 72 (gR σ) (yrK (gR σ) z (gK σ) j) → Fr (fun q => q = 72) w v → G Γ m_X7_year (fun x v => ∃ y, x = some (vI y) ∧ MR w (if k = 0 then bcn (kN (yrK (gR σ) z (gK σ) n.toNat)) else psum (kT (yrK (gR σ) z (gK σ) n.toNat)) 4, σ) y v) 0 0 49 [some (vR 63), some (vI z), some (vI n), some (vI k), some (vI j), o5, o6, o7, o8] [] v := by
            intro m
            induction m with
            | zero =>
              intro j v o5 o6 o7 o8 hj hAv hF
              have hRv := h.scr hF (fun a ha => by omega)
              obtain ⟨⟨c0, c1, c2, c3, c4, c5, c6, c7, c8, c9, c10, c11, c12, c13, c14⟩, d1, d2, d3, d4, d5, d6, d7, d8, d9, d10, d11, d12, d13, d14⟩ := id hRv.1.1
              have hj2 : n.toNat = j := by omega
              rw [hj2]
              obtain ⟨-, a0, aB, aT, aH, aN, aM⟩ := id hAv
              have hy := (yr_ok (z := z) ok.r ok.k hm9 h1 j (by omega)).1
              have hb := bcn_r _ (r16 hy.2.2.2.2.2.1)
              have t4 : ∀ (m i : Nat) , i + m = 4 → G Γ m_X7_year (fun x v => ∃ y, x = some (vI y) ∧ MR w (if k = 0 then bcn (kN (yrK (gR σ) z (gK σ) j)) else psum (kT (yrK (gR σ) z (gK σ) j)) 4, σ) y v) 0 0 189 [some (vR 63), some (vI z), some (vI n), some (vI k), some (vI (psum (kT (yrK (gR σ) z (gK σ) j)) i)), some (vI i), o6, o7, o8] [] v := by
                intro m
                induction m with
                | zero =>
                  intro i hi
                  have : i = 4 := by omega
                  subst this
                  have ht := psum4 (f := kT (yrK (gR σ) z (gK σ) j)) (M := 30) 4 (fun i hi => by have := hy.2.2.2.1 i (by omega) (by omega); omega)
                  refine k_X7_year_189 (fun _ => k_X7_year_216 (fun q => ?_) (fun q => ?_)) (fun q => absurd q (by omega))
                  · rw [if_neg q]
                    exact k_X7_year_233 ⟨_, rfl, rfl, hRv, fr72 hF⟩
                  · rw [if_pos q]
                    exact k_X7_year_220 (q1 := 72) (n2 := 32) (z3 := bcn (kN (yrK (gR σ) z (gK σ) j))) (by rw [aN]; exact sp_bits) ⟨_, rfl, rfl, hRv, fr72 hF⟩
                | succ m ih =>
                  intro i hi
                  have hh := ih (i + 1) (by omega)
                  have hp : psum (kT (yrK (gR σ) z (gK σ) j)) (i + 1) = psum (kT (yrK (gR σ) z (gK σ) j)) i + kT (yrK (gR σ) z (gK σ) j) i := rfl
                  rw [Int.natCast_add, hp, ← aT i (by omega) (by omega)] at hh
                  exact k_X7_year_189 (fun q => absurd q (by omega)) (fun _ => k_X7_year_195 (q1 := 72) (n2 := 32) hh)
              exact k_X7_year_49 (fun _ => k_X7_year_183 (t4 4 0 rfl)) (fun q => absurd q (by omega))
            | succ m ih =>
              intro j v o5 o6 o7 o8 hj hAv hF
              have hRv := h.scr hF (fun a ha => by omega)
              obtain ⟨⟨c0, c1, c2, c3, c4, c5, c6, c7, c8, c9, c10, c11, c12, c13, c14⟩, d1, d2, d3, d4, d5, d6, d7, d8, d9, d10, d11, d12, d13, d14⟩ := id hRv.1.1
              have hy := yr_ok (z := z) ok.r ok.k hm9 h1 j (by omega)
              obtain ⟨f1, f2, f3, f4, f5⟩ := dr_r (z := z) (k := (j : Int)) h1 (by omega)
              obtain ⟨e1, e2, e3, e4, e5, e6, e7, hw0, hf0⟩ := dr_s ⟨f4, f5⟩
              have hbit := bit_r hy.1.2.2.2.2.1 hw0
              have hst : yrK (gR σ) z (gK σ) (j + 1) = stepK (gR σ) (yrK (gR σ) z (gK σ) j) (dr z j) := rfl
              -- the month, or none
              have m0 : ∀ (x : Wd) (κ : Kp) (o5 o6 o7 o8 : Option Value), CarA x 72 (gR σ) κ → Fr (fun q => q = 72) w x → κ = yrK (gR σ) z (gK σ) (j + 1) → G Γ m_X7_year (fun x v => ∃ y, x = some (vI y) ∧ MR w (if k = 0 then bcn (kN (yrK (gR σ) z (gK σ) n.toNat)) else psum (kT (yrK (gR σ) z (gK σ) n.toNat)) 4, σ) y v) 0 0 177 [some (vR 63), some (vI z), some (vI n), some (vI k), some (vI j), o5, o6, o7, o8] [] x := by
                intro x κ p5 p6 p7 p8 hAx hFx e
                subst e
                have hh := ih (j + 1) x p5 p6 p7 p8 (by omega) hAx hFx
                rw [Int.natCast_add] at hh
                exact k_X7_year_177 hh
              have m1 : ∀ (x : Wd) (κ : Kp) (o5 o6 o7 o8 : Option Value), okK (gR σ) κ → CarA x 72 (gR σ) κ → Fr (fun q => q = 72) w x → monK (gR σ) κ = yrK (gR σ) z (gK σ) (j + 1) → G Γ m_X7_year (fun x v => ∃ y, x = some (vI y) ∧ MR w (if k = 0 then bcn (kN (yrK (gR σ) z (gK σ) n.toNat)) else psum (kT (yrK (gR σ) z (gK σ) n.toNat)) 4, σ) y v) 0 0 169 [some (vR 63), some (vI z), some (vI n), some (vI k), some (vI j), o5, o6, o7, o8] [] x := by
                intro x κ p5 p6 p7 p8 okx hAx hFx e
                have hRx := h.scr hFx (fun a ha => by omega)
                obtain ⟨⟨c0, c1, c2, c3, c4, c5, c6, c7, c8, c9, c10, c11, c12, c13, c14⟩, d1, d2, d3, d4, d5, d6, d7, d8, d9, d10, d11, d12, d13, d14⟩ := id hRx.1.1
                exact k_X7_year_169 (q1 := 72) (sp_passM (ρ := gR σ) hRx.1 hAx ok.r okx) (fun y hy2 => m0 y _ _ _ _ _ hy2.1 (hFx.trans hy2.2) e)
              have mon : ∀ (x : Wd) (κ : Kp) (o5 o6 o8 : Option Value), okK (gR σ) κ → CarA x 72 (gR σ) κ → Fr (fun q => q = 72) w x → (if ((dr z j).tdiv 512).tmod 3 = 0 then monK (gR σ) κ else κ) = yrK (gR σ) z (gK σ) (j + 1) → G Γ m_X7_year (fun x v => ∃ y, x = some (vI y) ∧ MR w (if k = 0 then bcn (kN (yrK (gR σ) z (gK σ) n.toNat)) else psum (kT (yrK (gR σ) z (gK σ) n.toNat)) 4, σ) y v) 0 0 158 [some (vR 63), some (vI z), some (vI n), some (vI k), some (vI j), o5, o6, some (vI (dr z j)), o8] [] x := by
                intro x κ p5 p6 p8 okx hAx hFx e
                refine k_X7_year_158 (fun q => ?_) (fun q => ?_)
                · rw [if_neg q] at e; exact m0 x _ _ _ _ _ hAx hFx e
                · rw [if_pos q] at e; exact m1 x _ _ _ _ _ okx hAx hFx e
              refine k_X7_year_49 (fun q => absurd q (by omega)) (fun _ => k_X7_year_55 (q1 := 72) (z2 := bit (kH (yrK (gR σ) z (gK σ) j)) ((dr z j).tmod 4)) (sp_isHookedM hAv hy.1 hw0) (fun q => ?_) (fun q => ?_))
              · change G Γ m_X7_year (fun x v => ∃ y, x = some (vI y) ∧ MR w (if k = 0 then bcn (kN (yrK (gR σ) z (gK σ) n.toNat)) else psum (kT (yrK (gR σ) z (gK σ) n.toNat)) 4, σ) y v) 0 0 128 [some (vR 63), some (vI z), some (vI n), some (vI k), some (vI j), some (vL _), none, some (vI (dr z j)), some (vI ((dr z j).tmod 4))] [] v
                by_cases hfr : freeK (yrK (gR σ) z (gK σ) j) ((dr z j).tmod 4)
                · refine k_X7_year_128 (q1 := 72) (sp_isFreeM1 hAv hy.1 hw0 hfr) (fun q => absurd q (by decide)) (fun _ => k_X7_year_140 (q1 := 72) (sp_kickM (ρ := gR σ) hRv.1 hAv ok.r hy.1 hw0 hf0) (fun x hx => mon x _ _ _ _ (kick_ok ok.r hy.1 hw0 hf0) hx.1 (hF.trans hx.2) ?_))
                  rw [hst]
                  unfold stepK stepA
                  rw [if_pos hfr.1, if_pos hfr.2]
                · refine k_X7_year_128 (q1 := 72) (sp_isFreeM0 hAv hy.1 hw0 hfr) (fun _ => mon v _ _ _ _ hy.1 hAv hF ?_) (fun q => absurd rfl q)
                  rw [hst]
                  unfold stepK stepA
                  rw [if_pos q, if_neg (fun q2 => hfr ⟨q, q2⟩)]
              · change G Γ m_X7_year (fun x v => ∃ y, x = some (vI y) ∧ MR w (if k = 0 then bcn (kN (yrK (gR σ) z (gK σ) n.toNat)) else psum (kT (yrK (gR σ) z (gK σ) n.toNat)) 4, σ) y v) 0 0 107 [some (vR 63), some (vI z), some (vI n), some (vI k), some (vI j), some (vL _), none, some (vI (dr z j)), some (vI ((dr z j).tmod 4))] [] v
                refine k_X7_year_107 (fun q2 => mon v _ _ _ _ hy.1 hAv hF ?_) (fun q2 => k_X7_year_116 (q1 := 72) (sp_loosen hAv ok.r hy.1 hw0) (fun x hx => k_X7_year_125 (fun q3 => m0 x _ _ _ _ _ hx.1 (hF.trans hx.2) ?_) (fun q3 => m1 x _ _ _ _ _ (go_ok hy.1 hw0) hx.1 (hF.trans hx.2) ?_)))
                · rw [hst]
                  unfold stepK stepA
                  rw [if_neg q, if_neg q2]
                · rw [hst]
                  unfold stepK stepA
                  rw [if_neg q, if_pos q2, if_neg q3]
                · rw [hst]
                  unfold stepK stepA
                  rw [if_neg q, if_pos q2, if_pos q3]
          exact key n.toNat 0 u _ _ _ _ (by omega) hu.1 hu.2
        · rw [if_neg h4]
          exact k_X7_year_32 (sp_isCoveredM0 hM hA ok.r ok.k h4) (fun q => absurd rfl q) (fun _ => k_X7_year_39 ⟨_, rfl, mr_same h⟩)
      · rw [if_neg (fun q => h3 q.2.2)]
        exact k_X7_year_21 (sp_in0 h3 hk (by omega) (by omega)) (fun q => absurd rfl q) (fun _ => k_X7_year_30 ⟨_, rfl, mr_same h⟩)
    · rw [if_neg (fun q => h2 q.2.1)]
      exact k_X7_year_11 (sp_in0 h2 hn (by omega) (by omega)) (fun _ => k_X7_year_30 ⟨_, rfl, mr_same h⟩) (fun q => absurd rfl q)
  · rw [if_neg (fun q => h1 q.1)]
    exact i_X7_year (k_X7_year_0 (sp_in0 h1 hz (by omega) (by omega)) (fun _ => k_X7_year_30 ⟨_, rfl, mr_same h⟩) (fun q => absurd rfl q))
end
