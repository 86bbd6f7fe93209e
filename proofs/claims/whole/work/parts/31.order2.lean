section
variable {Γ : Gm} {w : Wd}
theorem RM.bst {P : Nat → Prop} {u : Wd} {σ : Sg} (h : RM w σ) (g : Fr P w u) (hp : ∀ a, P a → a = 63 ∨ a = 72 ∨ a = 76 ∨ a = 77) (hk : ∀ k, k ≠ 24 → k ≠ 25 → k ≠ 26 → wI u 63 k = wI w 63 k) : RM u σ := by
  have hn : ∀ a, ¬ (a = 63 ∨ a = 72 ∨ a = 76 ∨ a = 77) → ¬ P a := fun a q r => q (hp a r)
  exact h.act g (fun a ha => by have := hp a ha; omega) (fun k q => hk k (by omega) (by omega) (by omega)) (h.2.2.1.fr g (hn 71 (by omega))) (h.2.2.2.1.fr g (hk 17 (by omega) (by omega) (by omega)) (hn 73 (by omega))) (h.2.2.2.2.1.fr g (hk 19 (by omega) (by omega) (by omega)) (hn 74 (by omega)))
theorem sp_kicksM {κ : Kp} {ρ : Rm} {c : Nat} (hM : RoomM w ρ) (hA : CarA w 71 ρ κ) (okr : okR ρ) (ok : okK ρ κ) (hr : ∀ k : Nat, k < nF κ → wI w 76 k = wlN (nF κ) c k) : SpI Γ m_X7_kicks [vR 63, vI (nF κ)] w (fun z u => z = (if kiF ρ (nF κ) c κ 0 0 (nF κ) = -4 then -1 else kiF ρ (nF κ) c κ 0 0 (nF κ)) ∧ Fr (fun a => a = 72) w u) := by
  have hf := frS_r ok
  have c0 := hM.1.1.1
  refine i_X7_kicks (k_X7_kicks_0 (sp_begin hM.1 hA okr ok) (fun u hu => k_X7_kicks_4 ?_))
  have key : ∀ (l k : Nat) (κ2 : Kp) (a : Int) (o4 : Option Value) (v : Wd), k + l = nF κ → okK ρ κ2 → CarA v 72 ρ κ2 → Fr (fun a => a = 72) w v → (0 ≤ a ∧ a ≤ 20 * k) → G Γ m_X7_kicks (fun v u => ∃ z, v = some (vI z) ∧ z = (if kiF ρ (nF κ) c κ2 a k l = -4 then -1 else kiF ρ (nF κ) c κ2 a k l) ∧ Fr (fun a => a = 72) w u) 0 0 8 [some (vR 63), some (vI (nF κ)), some (vI a), some (vI k), o4] [] v := by
    intro l
    induction l with
    | zero =>
      intro k κ2 a o4 v hk ok2 hAv hF ha
      refine k_X7_kicks_8 (fun _ => k_X7_kicks_80 ⟨_, rfl, ?_, hF⟩) (fun q => absurd q (by omega))
      show a = if a = -4 then -1 else a
      rw [if_neg (by omega)]
    | succ l ih =>
      intro k κ2 a o4 v hk ok2 hAv hF ha
      have hMv := hM.fr' hF (by decide)
      obtain ⟨⟨c0, c1, c2, c3, c4, c5, c6, c7, c8, c9, c10, c11, c12, c13, c14⟩, d1, d2, d3, d4, d5, d6, d7, d8, d9, d10, d11, d12, d13, d14⟩ := id hMv.1
      have hw := wl_lt (n := nF κ) (c := c) (k := k)
      have er : wI v 76 k = wlN (nF κ) c k := by rw [hF.2.1 76 (by decide)]; exact hr k (by omega)
      have e29 : wI v 72 29 = kH κ2 := hAv.2.2.2.2.1
      have h5 := ok2.2.2.2.2.1
      have hlr := lk_r (ρ := ρ) (κ := κ2) (i := (wlN (nF κ) c k : Int)) (t := wtF κ2)
      have go : ¬ lk ρ κ2 (wlN (nF κ) c k) (wtF κ2) = -4 → G Γ m_X7_kicks (fun v u => ∃ z, v = some (vI z) ∧ z = (if kiF ρ (nF κ) c κ2 a k (l + 1) = -4 then -1 else kiF ρ (nF κ) c κ2 a k (l + 1)) ∧ Fr (fun a => a = 72) w u) 0 0 53 [some (vR 63), some (vI (nF κ)), some (vI a), some (vI k), some (vI (lk ρ κ2 (wlN (nF κ) c k) (wtF κ2)))] [] v := by
        intro hn
        refine k_X7_kicks_53 (q1 := 72) (q2 := 76) (n3 := 12) (Q := fun u => CarA u 72 ρ (kick ρ κ2 (wlN (nF κ) c k) (lk ρ κ2 (wlN (nF κ) c k) (wtF κ2))) ∧ Fr (fun q => q = 72) v u) (by rw [er]; exact sp_kickM hMv hAv okr ok2 (by omega) (by omega)) (fun x hx => k_X7_kicks_69 ?_)
        have e : kiF ρ (nF κ) c κ2 a k (l + 1) = kiF ρ (nF κ) c (kick ρ κ2 (wlN (nF κ) c k) (lk ρ κ2 (wlN (nF κ) c k) (wtF κ2))) (a + lk ρ κ2 (wlN (nF κ) c k) (wtF κ2)) (k + 1) l := if_neg hn
        rw [e]
        have hh := ih (k + 1) _ (a + lk ρ κ2 (wlN (nF κ) c k) (wtF κ2)) (some (vI (lk ρ κ2 (wlN (nF κ) c k) (wtF κ2)))) x (by omega) (kick_ok okr ok2 (by omega) (by omega)) hx.1 (hF.trans hx.2) (by omega)
        rw [Int.natCast_add] at hh
        exact hh
      have no : lk ρ κ2 (wlN (nF κ) c k) (wtF κ2) = -4 → (if kiF ρ (nF κ) c κ2 a k (l + 1) = -4 then -1 else kiF ρ (nF κ) c κ2 a k (l + 1)) = -1 := fun q => if_pos (if_pos q)
      refine k_X7_kicks_8 (fun q => absurd q (by omega)) (fun _ => k_X7_kicks_13 (q1 := 72) (q2 := 76) (n3 := 12) (n5 := 32) (fun q => ?_) (fun q => ?_))
      · have ew : wtF κ2 = 4 := if_neg (by omega)
        rw [ew] at go no hlr
        rw [er]
        exact k_X7_kicks_38 (sp_leastKickM hMv hAv okr ok2 (by omega) (by omega)) (fun q2 => go q2) (fun q2 => k_X7_kicks_51 ⟨_, rfl, (no q2).symm, hF⟩)
      · have ew : wtF κ2 = 2 := if_pos (by omega)
        rw [ew] at go no hlr
        rw [er]
        exact k_X7_kicks_34 (sp_leastKickM hMv hAv okr ok2 (by omega) (by omega)) (fun q2 => go q2) (fun q2 => k_X7_kicks_51 ⟨_, rfl, (no q2).symm, hF⟩)
  exact key (nF κ) 0 κ 0 none u (by omega) ok hu.1 hu.2 (by omega)
def Pm (a : Nat) : Prop := a = 63 ∨ a = 72 ∨ a = 76 ∨ a = 77
/-- what the other side's search stands at behind the first codes -/
def mst (ρ : Rm) (κ : Kp) (u : Wd) (C : Nat) : Prop := wI u 63 24 = nF κ ∧ wI u 63 25 = (if (boF ρ κ 0 (cc (nF κ) C)).1 = -4 then -1 else (boF ρ κ 0 (cc (nF κ) C)).1) ∧ ((boF ρ κ 0 (cc (nF κ) C)).1 ≠ -4 → ∀ k : Nat, k < nF κ → wI u 77 k = wlN (nF κ) (boF ρ κ 0 (cc (nF κ) C)).2.toNat k)
theorem sp_layOrder {σ : Sg} (h : RM w σ) (ok : okS σ) : SpV Γ m_X7_layOrder [vR 63] w (fun u => Fr Pm w u ∧ (∀ k, k ≠ 24 → k ≠ 25 → k ≠ 26 → wI u 63 k = wI w 63 k) ∧ mst (gR σ) (gK σ) u 256) := by
  obtain ⟨hM, hT, hA, -⟩ := id h
  obtain ⟨⟨c0, c1, c2, c3, c4, c5, c6, c7, c8, c9, c10, c11, c12, c13, c14⟩, d1, d2, d3, d4, d5, d6, d7, d8, d9, d10, d11, d12, d13, d14⟩ := id hM.1
  obtain ⟨-, a0, aB, aT, aH, aN, aM⟩ := id hA
  have hf := frS_r ok.k
  have hn4 := hf.2.2.1
  have hcc := cc_fin (nF (gK σ)) (by omega)
  have frP : ∀ u : Wd, Fr Pm w u → (∀ k, k ≠ 24 → k ≠ 25 → k ≠ 26 → wI u 63 k = wI w 63 k) → RM u σ := fun u hF es => h.bst hF (fun a ha => ha) es
  have codes : ∀ (l C : Nat) (o4 o5 o6 o7 : Option Value) (u : Wd), C + l = 256 → nl1 [o5] 1 = true → nl1 [o6] 1 = true → Fr Pm w u → (∀ k, k ≠ 24 → k ≠ 25 → k ≠ 26 → wI u 63 k = wI w 63 k) → mst (gR σ) (gK σ) u C → G Γ m_X7_layOrder (fun v u => v = none ∧ Fr Pm w u ∧ (∀ k, k ≠ 24 → k ≠ 25 → k ≠ 26 → wI u 63 k = wI w 63 k) ∧ mst (gR σ) (gK σ) u 256) 0 0 38 [some (vR 63), some (vI (frS (gK σ))), some (vI (nF (gK σ))), some (vI C), o4, o5, o6, o7] [] u := by
    intro l
    induction l with
    | zero =>
      intro C o4 o5 o6 o7 u hC _ _ hF es hm
      have : C = 256 := by omega
      subst this
      exact k_X7_layOrder_38 (fun _ => k_X7_layOrder_221 ⟨rfl, hF, es, hm⟩) (fun q => absurd q (by omega))
    | succ l ih =>
      intro C o4 o5 o6 o7 u hC hl5 hl6 hF es hm
      have hC2 : C < 256 := by omega
      -- the row is laid
      have row : ∀ (j : Nat) (v : Wd), j ≤ 4 → Fr Pm w v → (∀ k, k ≠ 24 → k ≠ 25 → k ≠ 26 → wI v 63 k = wI w 63 k) → mst (gR σ) (gK σ) v C → (∀ k : Nat, j ≤ k → k < 4 → wI v 76 k = wlN 4 C k) → G Γ m_X7_layOrder (fun v u => v = none ∧ Fr Pm w u ∧ (∀ k, k ≠ 24 → k ≠ 25 → k ≠ 26 → wI u 63 k = wI w 63 k) ∧ mst (gR σ) (gK σ) u 256) 0 0 54 [some (vR 63), some (vI (frS (gK σ))), some (vI (nF (gK σ))), some (vI C), some (vI 0), some (vI (C / 4 ^ (4 - j) : Nat)), some (vI ((j : Int) - 1)), o7] [] v := by
        intro j
        induction j with
        | zero =>
          intro v _ hFv esv hmv hrow
          -- the next code
          have next : ∀ (o4 o5 o6 o7 : Option Value) (x : Wd), nl1 [o5] 1 = true → nl1 [o6] 1 = true → Fr Pm w x → (∀ k, k ≠ 24 → k ≠ 25 → k ≠ 26 → wI x 63 k = wI w 63 k) → mst (gR σ) (gK σ) x (C + 1) → G Γ m_X7_layOrder (fun v u => v = none ∧ Fr Pm w u ∧ (∀ k, k ≠ 24 → k ≠ 25 → k ≠ 26 → wI u 63 k = wI w 63 k) ∧ mst (gR σ) (gK σ) u 256) 0 0 38 [some (vR 63), some (vI (frS (gK σ))), some (vI (nF (gK σ))), some (vI ((C : Int) + 1)), o4, o5, o6, o7] [] x := by
            intro o4 o5 o6 o7 x g5 g6 hFx esx hmx
            have hh := ih (C + 1) o4 o5 o6 o7 x (by omega) g5 g6 hFx esx hmx
            rw [Int.natCast_add] at hh
            exact hh
          have hRv := frP v hFv esv
          obtain ⟨hMv, -, hAv, -⟩ := id hRv
          obtain ⟨⟨c0, c1, c2, c3, c4, c5, c6, c7, c8, c9, c10, c11, c12, c13, c14⟩, d1, d2, d3, d4, d5, d6, d7, d8, d9, d10, d11, d12, d13, d14⟩ := id hMv.1
          have hor := or4_fin (frS (gK σ)).toNat (by omega) C hC2
          rw [show (((frS (gK σ)).toNat : Nat) : Int) = frS (gK σ) by omega] at hor
          change (if me4 (nF (gK σ)) C 4 = frS (gK σ) ∧ re4 (nF (gK σ)) C 4 = 1 then C % 4 ^ (4 - nF (gK σ)) = 0 ∧ vaA (frS (gK σ)) (nF (gK σ)) (C / 4 ^ (4 - nF (gK σ))) 0 0 (nF (gK σ)) = 1 else (C % 4 ^ (4 - nF (gK σ)) ≠ 0 ∨ vaA (frS (gK σ)) (nF (gK σ)) (C / 4 ^ (4 - nF (gK σ))) 0 0 (nF (gK σ)) = 0)) at hor
          have hc2 := hcc.2.2 C hC2
          -- not an order: nothing changes
          have bad : ¬ (me4 (nF (gK σ)) C 4 = frS (gK σ) ∧ re4 (nF (gK σ)) C 4 = 1) → mst (gR σ) (gK σ) v (C + 1) := by
            intro q
            rw [if_neg q] at hor
            by_cases e : C % 4 ^ (4 - nF (gK σ)) = 0
            · have hv := hor.resolve_left (fun q2 => q2 e)
              have hc3 := hc2.1 e
              have ek : ki (gR σ) (gK σ) (cc (nF (gK σ)) C) = -4 := by
                rw [hc3.2.1]
                exact if_neg (by omega)
              have eb : boF (gR σ) (gK σ) 0 (cc (nF (gK σ)) (C + 1)) = boF (gR σ) (gK σ) 0 (cc (nF (gK σ)) C) := by
                rw [hc3.1]; exact if_pos ek
              unfold mst
              rw [eb]
              exact hmv
            · unfold mst
              rw [hc2.2 e]
              exact hmv
          have met : ∀ (l k : Nat) (p5 : Option Value), nl1 [p5] 1 = true → k + l = 4 → G Γ m_X7_layOrder (fun v u => v = none ∧ Fr Pm w u ∧ (∀ k, k ≠ 24 → k ≠ 25 → k ≠ 26 → wI u 63 k = wI w 63 k) ∧ mst (gR σ) (gK σ) u 256) 0 0 88 [some (vR 63), some (vI (frS (gK σ))), some (vI (nF (gK σ))), some (vI C), some (vI (me4 (nF (gK σ)) C k)), p5, some (vI (re4 (nF (gK σ)) C k)), some (vI k)] [] v := by
            intro l
            induction l with
            | zero =>
              intro k p5 hl hk
              have : k = 4 := by omega
              subst this
              have hme := me_fin (nF (gK σ)) (by omega) C hC2 4 (by omega)
              have hre := re_fin (nF (gK σ)) C 4
              refine k_X7_layOrder_88 (fun _ => k_X7_layOrder_152 (fun q => k_X7_layOrder_171 (next _ _ _ _ v hl rfl hFv esv (bad (fun q2 => q q2.1)))) (fun q => k_X7_layOrder_158 (fun q2 => k_X7_layOrder_171 (next _ _ _ _ v hl rfl hFv esv (bad (fun q3 => by omega)))) (fun q2 => ?_))) (fun q => absurd q (by omega))
              -- an order
              rw [if_pos ⟨q, by omega⟩] at hor
              have hc3 := hc2.1 hor.1
              have hw4 := wl4_fin (nF (gK σ)) (by omega) C hC2 hor.1
              have ek : ki (gR σ) (gK σ) (cc (nF (gK σ)) C) = kiF (gR σ) (nF (gK σ)) (cc (nF (gK σ)) C) (gK σ) 0 0 (nF (gK σ)) := by
                rw [hc3.2.1]
                exact if_pos hor.2
              have hki := ki_r (ρ := gR σ) (κ := gK σ) (c := cc (nF (gK σ)) C)
              have hbo := bo_r (ρ := gR σ) (κ := gK σ) (c0 := 0) (cc (nF (gK σ)) C)
              have es1 : boF (gR σ) (gK σ) 0 (cc (nF (gK σ)) (C + 1)) = if ki (gR σ) (gK σ) (cc (nF (gK σ)) C) = -4 then boF (gR σ) (gK σ) 0 (cc (nF (gK σ)) C) else if (boF (gR σ) (gK σ) 0 (cc (nF (gK σ)) C)).1 = -4 ∨ ki (gR σ) (gK σ) (cc (nF (gK σ)) C) < (boF (gR σ) (gK σ) 0 (cc (nF (gK σ)) C)).1 then (ki (gR σ) (gK σ) (cc (nF (gK σ)) C), ((cc (nF (gK σ)) C : Nat) : Int)) else boF (gR σ) (gK σ) 0 (cc (nF (gK σ)) C) := by
                rw [hc3.1]; rfl
              have hrow2 : ∀ k : Nat, k < nF (gK σ) → wI v 76 k = wlN (nF (gK σ)) (cc (nF (gK σ)) C) k := fun k hk => by
                rw [hrow k (by omega) (by omega), hw4 k hk, hc3.2.1]
              refine k_X7_layOrder_163 (sp_kicksM (c := cc (nF (gK σ)) C) hMv hAv ok.r ok.k hrow2) (fun z x hz => ?_)
              obtain ⟨hz, hFx⟩ := hz
              rw [← ek] at hz
              have hFw : Fr Pm w x := hFv.trans (hFx.mono (fun a ha => Or.inr (Or.inl ha)))
              have esx : ∀ k, k ≠ 24 → k ≠ 25 → k ≠ 26 → wI x 63 k = wI w 63 k := fun k h1 h2 h3 => by rw [hFx.2.1 63 (by decide)]; exact esv k h1 h2 h3
              have hmx : mst (gR σ) (gK σ) x C := by
                unfold mst
                rw [hFx.2.1 63 (by decide), hFx.2.1 63 (by decide)]
                refine ⟨hmv.1, hmv.2.1, fun q3 k hk => ?_⟩
                rw [hFx.2.1 77 (by decide)]
                exact hmv.2.2 q3 k hk
              have hRx := frP x hFw esx
              obtain ⟨hMx, -, hAx, -⟩ := id hRx
              obtain ⟨⟨c0, c1, c2, c3, c4, c5, c6, c7, c8, c9, c10, c11, c12, c13, c14⟩, d1, d2, d3, d4, d5, d6, d7, d8, d9, d10, d11, d12, d13, d14⟩ := id hMx.1
              have same : boF (gR σ) (gK σ) 0 (cc (nF (gK σ)) (C + 1)) = boF (gR σ) (gK σ) 0 (cc (nF (gK σ)) C) → mst (gR σ) (gK σ) x (C + 1) := fun eb => by
                unfold mst
                rw [eb]
                exact hmx
              have e25 := hmx.2.1
              by_cases e4 : ki (gR σ) (gK σ) (cc (nF (gK σ)) C) = -4
              · rw [if_pos e4] at hz es1
                exact k_X7_layOrder_168 (fun _ => k_X7_layOrder_215 (next _ _ _ _ x hl rfl hFw esx (same es1))) (fun q3 => absurd q3 (by omega))
              · rw [if_neg e4] at hz es1
                -- it is taken
                have take : (boF (gR σ) (gK σ) 0 (cc (nF (gK σ)) C)).1 = -4 ∨ ki (gR σ) (gK σ) (cc (nF (gK σ)) C) < (boF (gR σ) (gK σ) 0 (cc (nF (gK σ)) C)).1 → ∀ o4 o6 : Option Value, nl1 [o6] 1 = true → G Γ m_X7_layOrder (fun v u => v = none ∧ Fr Pm w u ∧ (∀ k, k ≠ 24 → k ≠ 25 → k ≠ 26 → wI u 63 k = wI w 63 k) ∧ mst (gR σ) (gK σ) u 256) 0 0 195 [some (vR 63), some (vI (frS (gK σ))), some (vI (nF (gK σ))), some (vI C), o4, p5, o6, some (vI z)] [] x := by
                  intro q3 o4 o6 h6
                  rw [if_pos q3] at es1
                  have hF1 : Fr Pm x (stI x 63 25 z) := Fr.st (P := Pm) (Or.inl rfl)
                  refine k_X7_layOrder_195 (q1 := 76) (q2 := 77) (sp_bring (na := 12) (nb := 12) (by rw [hF1.sh]; exact c13) (by rw [hF1.sh]; exact c14) (by omega) (by omega) (by omega) (by omega) (by omega) (Or.inl (by decide))) (fun y hy => k_X7_layOrder_215 (next _ _ _ _ y hl h6 ((hFw.trans hF1).trans (hy.1.mono (fun a ha => Or.inr (Or.inr (Or.inr ha))))) (fun k h1 h2 h3 => by rw [hy.1.2.1 63 (by decide), wI_skip h2]; exact esx k h1 h2 h3) ?_))
                  refine ⟨by rw [hy.1.2.1 63 (by decide), wI_skip (by decide)]; exact hmx.1, ?_, fun q4 k hk => ?_⟩
                  · rw [hy.1.2.1 63 (by decide), wI_hit, es1]
                    show z = if ki (gR σ) (gK σ) (cc (nF (gK σ)) C) = -4 then -1 else ki (gR σ) (gK σ) (cc (nF (gK σ)) C)
                    rw [if_neg e4, hz]
                  · rw [hy.2, if_pos (by omega), wI_st_ne (by decide), hFx.2.1 76 (by decide), es1]
                    show wI v 76 (0 + ((k : Int) - 0)) = ((wlN (nF (gK σ)) ((cc (nF (gK σ)) C : Nat) : Int).toNat k : Nat) : Int)
                    rw [show (0 : Int) + ((k : Int) - 0) = k by omega, Int.toNat_natCast]
                    exact hrow2 k hk
                refine k_X7_layOrder_168 (fun q3 => absurd q3 (by omega)) (fun _ => k_X7_layOrder_179 (fun q3 => take (Or.inl ?_) _ _ rfl) (fun q3 => k_X7_layOrder_186 (fun q4 => k_X7_layOrder_215 (next _ _ _ _ x hl rfl hFw esx (same ?_))) (fun q4 => take ?_ _ _ rfl)))
                · by_cases e5 : (boF (gR σ) (gK σ) 0 (cc (nF (gK σ)) C)).1 = -4
                  · exact e5
                  · rw [if_neg e5] at e25; omega
                · have e5 : ¬ (boF (gR σ) (gK σ) 0 (cc (nF (gK σ)) C)).1 = -4 := fun e5 => by rw [if_pos e5] at e25; omega
                  rw [if_neg e5] at e25
                  rw [es1, if_neg (by omega)]
                · have e5 : ¬ (boF (gR σ) (gK σ) 0 (cc (nF (gK σ)) C)).1 = -4 := fun e5 => by rw [if_pos e5] at e25; omega
                  rw [if_neg e5] at e25
                  exact Or.inr (by omega)
            | succ l ihl =>
              intro k p5 hl hk
              have hh := ihl (k + 1) p5 hl (by omega)
              rw [Int.natCast_add] at hh
              have hre := re_fin (nF (gK σ)) C k
              have hr := hrow k (by omega) (by omega)
              have hwl := wl_lt (n := 4) (c := C) (k := k)
              refine k_X7_layOrder_88 (fun q => absurd q (by omega)) (fun _ => k_X7_layOrder_94 (fun q => k_X7_layOrder_114 (fun q2 => k_X7_layOrder_143 ?_ hl) (fun q2 => k_X7_layOrder_123 (fun q3 => absurd q3 (by omega)) (fun _ => k_X7_layOrder_129 (q1 := 76) (n2 := 12) (fun q3 => k_X7_layOrder_143 ?_ hl) (fun q3 => k_X7_layOrder_139 ?_ hl)))) (fun q => k_X7_layOrder_102 (q1 := 76) (n2 := 12) (fun q2 => k_X7_layOrder_143 ?_ hl) (fun q2 => k_X7_layOrder_123 (fun _ => k_X7_layOrder_139 ?_ hl) (fun q3 => absurd (show (k : Int) < nF (gK σ) by omega) q3))))
              · have e1 : me4 (nF (gK σ)) C (k + 1) = zor (me4 (nF (gK σ)) C k) 0 := if_pos (by omega)
                have e2 : re4 (nF (gK σ)) C (k + 1) = 0 := if_pos q2
                rw [e1, e2] at hh
                exact hh
              · have e1 : me4 (nF (gK σ)) C (k + 1) = zor (me4 (nF (gK σ)) C k) 0 := if_pos (by omega)
                have e2 : re4 (nF (gK σ)) C (k + 1) = 0 := (if_neg q2).trans ((if_neg (by omega)).trans (if_neg (by omega)))
                rw [e1, e2] at hh
                exact hh
              · have e1 : me4 (nF (gK σ)) C (k + 1) = zor (me4 (nF (gK σ)) C k) 0 := if_pos (by omega)
                have e2 : re4 (nF (gK σ)) C (k + 1) = 1 := (if_neg q2).trans ((if_neg (by omega)).trans (if_pos (by omega)))
                rw [e1, e2] at hh
                exact hh
              · have e1 : me4 (nF (gK σ)) C (k + 1) = zor (me4 (nF (gK σ)) C k) (zshl 1 (wlN 4 C k)) := if_neg (by omega)
                have e2 : re4 (nF (gK σ)) C (k + 1) = 0 := if_pos q2
                rw [e1, e2] at hh
                rw [hr]
                exact hh
              · have e1 : me4 (nF (gK σ)) C (k + 1) = zor (me4 (nF (gK σ)) C k) (zshl 1 (wlN 4 C k)) := if_neg (by omega)
                have e2 : re4 (nF (gK σ)) C (k + 1) = 1 := (if_neg q2).trans (if_pos (by omega))
                rw [e1, e2] at hh
                rw [hr]
                exact hh
          exact k_X7_layOrder_54 (fun _ => k_X7_layOrder_82 (met 4 0 _ rfl (by omega))) (fun q => absurd q (by omega))
        | succ j ihj =>
          intro v hj hFv esv hmv hrow
          have hRv := frP v hFv esv
          obtain ⟨⟨c0, c1, c2, c3, c4, c5, c6, c7, c8, c9, c10, c11, c12, c13, c14⟩, d1, d2, d3, d4, d5, d6, d7, d8, d9, d10, d11, d12, d13, d14⟩ := id hRv.1.1
          have hdl : C / 4 ^ (4 - (j + 1)) ≤ C := Nat.div_le_self _ _
          have ed : C / 4 ^ (4 - j) = C / 4 ^ (4 - (j + 1)) / 4 := by
            rw [Nat.div_div_eq_div_mul, ← Nat.pow_succ, show (4 - (j + 1)).succ = 4 - j by omega]
          have ew : wlN 4 C j = C / 4 ^ (4 - (j + 1)) % 4 := by
            unfold wlN
            rw [show 4 - 1 - j = 4 - (j + 1) by omega]
          generalize C / 4 ^ (4 - (j + 1)) = D at ed ew hdl ⊢
          have em : ((D : Int).tmod 4) = ((wlN 4 C j : Nat) : Int) := by
            rw [Int.tmod_eq_emod_of_nonneg (by omega)]
            omega
          have et : ((D : Int).tdiv 4) = ((C / 4 ^ (4 - j) : Nat) : Int) := by
            rw [ed, Int.tdiv_eq_ediv_of_nonneg (by omega)]
            omega
          have ej : ((j + 1 : Nat) : Int) - 1 = j := by omega
          rw [ej]
          have hF1 : Fr Pm v (stI v 76 j (wlN 4 C j)) := Fr.st (P := Pm) (Or.inr (Or.inr (Or.inl rfl)))
          have hh := ihj (stI v 76 j (wlN 4 C j)) (by omega) (hFv.trans hF1) (fun k h1 h2 h3 => by rw [wI_st_ne (by decide)]; exact esv k h1 h2 h3) (by
            unfold mst
            refine ⟨by rw [wI_st_ne (by decide)]; exact hmv.1, by rw [wI_st_ne (by decide)]; exact hmv.2.1, fun q k hk => ?_⟩
            rw [wI_st_ne (by decide)]; exact hmv.2.2 q k hk) (fun k h1 h2 => by
            by_cases e : k = j
            · rw [e, wI_hit]
            · rw [wI_skip (by omega)]; exact hrow k (by omega) h2)
          refine k_X7_layOrder_54 (fun q => absurd q (by omega)) (fun _ => k_X7_layOrder_59 (q1 := 76) (n2 := 12) ?_)
          rw [em, et]
          exact hh
      refine k_X7_layOrder_38 (fun q => absurd q (by omega)) (fun _ => k_X7_layOrder_45 ?_)
      have := row 4 u (by omega) hF es hm (fun k a b => absurd b (by omega))
      rw [show C / 4 ^ (4 - 4) = C by simp] at this
      exact this
  have e24 : bcn (frS (gK σ)) = nF (gK σ) := hf.2.2.2
  have efr : zand 15 (zxor (zor (wI w 71 29) (wI w 71 30)) (-1)) = frS (gK σ) := by rw [aH, aN]; rfl
  refine i_X7_layOrder (k_X7_layOrder_0 (q1 := 71) (n2 := 32) (z4 := nF (gK σ)) (by rw [efr, ← e24]; exact sp_bits) ?_)
  rw [efr]
  have hF0 : Fr Pm w (stI (stI w 63 25 (-1)) 63 24 (nF (gK σ))) := (Fr.st (P := Pm) (Or.inl rfl)).trans (Fr.st (P := Pm) (Or.inl rfl))
  refine codes 256 0 none none none none _ (by omega) rfl rfl hF0 (fun k h1 h2 h3 => by rw [wI_skip h1, wI_skip h2]) ⟨by rw [wI_hit], ?_, fun q => ?_⟩
  · rw [wI_skip (by decide), wI_hit, hcc.1]; rfl
  · rw [hcc.1] at q; exact absurd rfl q
theorem m_order {σ : Sg} {k : Int} (h : RM w σ) (ok : okS σ) (hk : sm k) : SpI Γ m_X7_order [vR 63, vI k] w (MR w (fOrder σ k, σ)) := by
  have hf := frS_r ok.k
  have hn4 := hf.2.2.1
  have c0 := h.1.1.1.1
  unfold fOrder
  by_cases h1 : -1 ≤ k ∧ k ≤ 3
  · rw [if_pos h1]
    refine i_X7_order (k_X7_order_0 (sp_in1 h1 hk (by omega) (by omega)) (fun _ => ?_) (fun q => absurd q (by decide)))
    refine k_X7_order_11 (sp_layOrder h ok) (fun u hu => ?_)
    obtain ⟨hF, es, e24, e25, e77⟩ := hu
    have hRu := h.bst hF (fun a ha => ha) es
    obtain ⟨⟨c0, c1, c2, c3, c4, c5, c6, c7, c8, c9, c10, c11, c12, c13, c14⟩, d1, d2, d3, d4, d5, d6, d7, d8, d9, d10, d11, d12, d13, d14⟩ := id hRu.1.1
    have hFw : Fr (fun a => 63 ≤ a) w u := hF.mono (fun a ha => by unfold Pm at ha; omega)
    rw [(cc_fin (nF (gK σ)) (by omega)).2.1] at e25 e77
    have hbo := bo_r (ρ := gR σ) (κ := gK σ) (c0 := 0) (4 ^ nF (gK σ))
    have hbo : ((boK (gR σ) (gK σ)).1 = -4 ∧ _) ∨ ((0 ≤ (boK (gR σ) (gK σ)).1 ∧ (boK (gR σ) (gK σ)).1 ≤ 20 * nF (gK σ)) ∧ 0 ≤ (boK (gR σ) (gK σ)).2 ∧ (boK (gR σ) (gK σ)).2 < ((4 ^ nF (gK σ) : Nat) : Int)) := hbo
    have e25 : wI u 63 25 = if (boK (gR σ) (gK σ)).1 = -4 then -1 else (boK (gR σ) (gK σ)).1 := e25
    have e77 : (boK (gR σ) (gK σ)).1 ≠ -4 → ∀ k : Nat, k < nF (gK σ) → wI u 77 k = wlN (nF (gK σ)) (boK (gR σ) (gK σ)).2.toNat k := e77
    by_cases q2 : (boK (gR σ) (gK σ)).1 = -4
    · rw [if_pos q2] at e25 ⊢
      exact k_X7_order_15 (fun q => absurd q (by omega)) (fun _ => k_X7_order_22 ⟨_, rfl, rfl, hRu, hFw⟩)
    · rw [if_neg q2] at e25 ⊢
      refine k_X7_order_15 (fun _ => k_X7_order_25 (fun q => ?_) (fun q => ?_)) (fun q => absurd q (by omega))
      · rw [if_neg q]
        refine k_X7_order_37 (fun q3 => ?_) (fun q3 => ?_)
        · rw [if_neg (by omega)]
          exact k_X7_order_54 ⟨_, rfl, rfl, hRu, hFw⟩
        · rw [if_pos (by omega)]
          have e7 := e77 q2 k.toNat (by omega)
          rw [show ((k.toNat : Nat) : Int) = k by omega] at e7
          exact k_X7_order_45 (q1 := 77) (n2 := 12) ⟨_, rfl, e7, hRu, hFw⟩
      · rw [if_pos q]
        exact k_X7_order_30 ⟨_, rfl, e25, hRu, hFw⟩
  · rw [if_neg h1]
    exact i_X7_order (k_X7_order_0 (sp_in0 h1 hk (by omega) (by omega)) (fun q => absurd rfl q) (fun _ => k_X7_order_9 ⟨_, rfl, mr_same h⟩))
end
