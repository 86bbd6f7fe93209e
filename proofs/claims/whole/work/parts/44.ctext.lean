section
variable {Γ : Gm} {w : Wd} {x m r : Nat}
theorem sp_nb3 : SpP Γ m_X3_numbersBehind [vI 115] w 3 := i_X3_numbersBehind (k_X3_numbersBehind_0 (fun _ => k_X3_numbersBehind_80 (rp rfl)) (fun q => absurd q (by decide)) (fun q => absurd q (by decide)) (fun q => absurd q (by decide)))
theorem sp_nb2 {c : Int} (h : c = 107 ∨ c = 114) : SpP Γ m_X3_numbersBehind [vI c] w 2 := i_X3_numbersBehind (k_X3_numbersBehind_0 (fun q => absurd q (by omega)) (fun _ => k_X3_numbersBehind_82 (rp rfl)) (fun q => absurd q (by omega)) (fun q => absurd h (by omega)))
theorem sp_nb1 {c : Int} (h : c = 100 ∨ c = 104 ∨ c = 111) : SpP Γ m_X3_numbersBehind [vI c] w 1 := i_X3_numbersBehind (k_X3_numbersBehind_0 (fun q => absurd q (by omega)) (fun q => absurd q (by omega)) (fun _ => k_X3_numbersBehind_84 (rp rfl)) (fun q => absurd h (by omega)))
theorem sp_nb0 {c : Int} (hc : 0 ≤ c ∧ c ≤ 126) (h : c ≠ 100 ∧ c ≠ 104 ∧ c ≠ 107 ∧ c ≠ 111 ∧ c ≠ 114 ∧ c ≠ 115) : SpP Γ m_X3_numbersBehind [vI c] w 0 := i_X3_numbersBehind (k_X3_numbersBehind_0 (fun q => absurd q (by omega)) (fun q => absurd q (by omega)) (fun q => absurd q (by omega)) (fun _ => k_X3_numbersBehind_86 (rp rfl)))
theorem rn_step {Ret : Option Value → Wd → Prop} {t : Tx} {p i n : Int} {o3 o7 : Option Value} (hS : RoomS w r) (hT : TxS w x m t) (okt : okX t) (hx : x ≠ r + 5) (hp : 0 ≤ p ∧ p < 900) (hi : (0 ≤ i ∧ i < n) ∧ n ≤ 3)
    (kf : ¬ nuP t p (if i + 1 = n then 59 else 44) → ∀ u, Fr (fun a => a = r + 5) w u → Ret (some (vI (-4))) u)
    (kt : nuP t p (if i + 1 = n then 59 else 44) → ∀ o : Option Value, G Γ m_X3_readNumbers Ret 0 0 27 [some (vR r), some (vR x), some (vI t.1), o3, some (vI n), some (vI (nxF t p)), some (vI (i + 1)), o] [] (stI w (r + 5) i (nmF t p))) :
    G Γ m_X3_readNumbers Ret 0 0 27 [some (vR r), some (vR x), some (vI t.1), o3, some (vI n), some (vI p), some (vI i), o7] [] w := by
  obtain ⟨s0, s1, s2, s3, s4, s5, t0, t1, t2, t3, t4⟩ := id hS
  have hfg := fg_r t p
  refine k_X3_readNumbers_27 (fun q => absurd q (by omega)) (fun _ => k_X3_readNumbers_34 (sp_figuresAt hT okt (by omega)) (fun q => ?_) (fun q => k_X3_readNumbers_48 (kf (fun h => h.1 q) w Fr.rfl)))
  refine k_X3_readNumbers_51 (q1 := r + 5) (sp_numberAt hT okt (by omega) q) (sp_put s5 (by omega) (by omega)) (fun u hu => ?_)
  subst hu
  have hF : Fr (fun a => a = r + 5) w (stI w (r + 5) i (nmF t p)) := Fr.st rfl
  have hT' := hT.fr hF hx
  have hl := lt_r okt (p := p + fgF t p) (by omega)
  refine k_X3_readNumbers_69 (sp_letterAt hT' okt (by omega) (by omega)) (fun q2 => ?_) (fun q2 => ?_)
  · rw [if_neg q2] at kf kt
    exact k_X3_readNumbers_97 (fun q3 => k_X3_readNumbers_105 (kt ⟨q, q3⟩ _)) (fun q3 => k_X3_readNumbers_102 (kf (fun h => q3 h.2) _ hF))
  · rw [if_pos q2] at kf kt
    exact k_X3_readNumbers_92 (fun q3 => k_X3_readNumbers_105 (kt ⟨q, q3⟩ _)) (fun q3 => k_X3_readNumbers_102 (kf (fun h => q3 h.2) _ hF))
theorem sp_rn0 {t : Tx} {p : Int} (hT : TxS w x m t) (okt : okX t) (hp : 0 ≤ p ∧ p < 800) (h : ltF t p ≠ 100 ∧ ltF t p ≠ 104 ∧ ltF t p ≠ 107 ∧ ltF t p ≠ 111 ∧ ltF t p ≠ 114 ∧ ltF t p ≠ 115) : SpI Γ m_X3_readNumbers [vR r, vR x, vI t.1, vI p] w (fun z u => z = -4 ∧ u = w) :=
  i_X3_readNumbers (k_X3_readNumbers_0 (sp_letterAt hT okt hp.1 (by omega)) (sp_nb0 (lt_r okt hp.1) h) (fun q => absurd rfl q) (fun _ => k_X3_readNumbers_16 ⟨_, rfl, rfl, rfl⟩))
theorem sp_rn1 {t : Tx} {p : Int} (hS : RoomS w r) (hT : TxS w x m t) (okt : okX t) (hx : x ≠ r + 5) (hp : 0 ≤ p ∧ p < 800) (h : ltF t p = 100 ∨ ltF t p = 104 ∨ ltF t p = 111) : SpI Γ m_X3_readNumbers [vR r, vR x, vI t.1, vI p] w (fun z u => Fr (fun a => a = r + 5) w u ∧ ((z = -4 ∧ ¬ nuP t (p + 1) 59) ∨ (nuP t (p + 1) 59 ∧ z = nxF t (p + 1) ∧ wI u (r + 5) 0 = nmF t (p + 1)))) := by
  have n1 := nx_r t (p + 1)
  refine i_X3_readNumbers (k_X3_readNumbers_0 (sp_letterAt hT okt hp.1 (by omega)) (sp_nb1 h) (fun _ => k_X3_readNumbers_19 ?_) (fun q => absurd q (by decide)))
  refine rn_step hS hT okt hx (by omega) (by omega) (fun q u hu => ⟨_, rfl, hu, Or.inl ⟨rfl, q⟩⟩) (fun q o => ?_)
  exact k_X3_readNumbers_27 (fun _ => k_X3_readNumbers_114 ⟨_, rfl, Fr.st rfl, Or.inr ⟨q, rfl, wI_hit⟩⟩) (fun q2 => absurd q2 (by omega))
theorem sp_rn2 {t : Tx} {p : Int} (hS : RoomS w r) (hT : TxS w x m t) (okt : okX t) (hx : x ≠ r + 5) (hp : 0 ≤ p ∧ p < 800) (h : ltF t p = 107 ∨ ltF t p = 114) : SpI Γ m_X3_readNumbers [vR r, vR x, vI t.1, vI p] w (fun z u => Fr (fun a => a = r + 5) w u ∧ ((z = -4 ∧ ¬ (nuP t (p + 1) 44 ∧ nuP t (nxF t (p + 1)) 59)) ∨ ((nuP t (p + 1) 44 ∧ nuP t (nxF t (p + 1)) 59) ∧ z = nxF t (nxF t (p + 1)) ∧ wI u (r + 5) 0 = nmF t (p + 1) ∧ wI u (r + 5) 1 = nmF t (nxF t (p + 1))))) := by
  have n1 := nx_r t (p + 1)
  have n2 := nx_r t (nxF t (p + 1))
  refine i_X3_readNumbers (k_X3_readNumbers_0 (sp_letterAt hT okt hp.1 (by omega)) (sp_nb2 h) (fun _ => k_X3_readNumbers_19 ?_) (fun q => absurd q (by decide)))
  refine rn_step hS hT okt hx (by omega) (by omega) (fun q u hu => ⟨_, rfl, hu, Or.inl ⟨rfl, fun h2 => q h2.1⟩⟩) (fun q o => ?_)
  have hF : Fr (fun a => a = r + 5) w (stI w (r + 5) 0 (nmF t (p + 1))) := Fr.st rfl
  refine rn_step (hS.fr hF) (hT.fr hF hx) okt hx (by omega) (by omega) (fun q2 u hu => ⟨_, rfl, hF.trans hu, Or.inl ⟨rfl, fun h2 => q2 h2.2⟩⟩) (fun q2 o => ?_)
  exact k_X3_readNumbers_27 (fun _ => k_X3_readNumbers_114 ⟨_, rfl, hF.trans (Fr.st rfl), Or.inr ⟨⟨q, q2⟩, rfl, by rw [wI_skip (by decide), wI_hit], wI_hit⟩⟩) (fun q2 => absurd q2 (by omega))
theorem sp_rn3 {t : Tx} {p : Int} (hS : RoomS w r) (hT : TxS w x m t) (okt : okX t) (hx : x ≠ r + 5) (hp : 0 ≤ p ∧ p < 800) (h : ltF t p = 115) : SpI Γ m_X3_readNumbers [vR r, vR x, vI t.1, vI p] w (fun z u => Fr (fun a => a = r + 5) w u ∧ ((z = -4 ∧ ¬ (nuP t (p + 1) 44 ∧ nuP t (nxF t (p + 1)) 44 ∧ nuP t (nxF t (nxF t (p + 1))) 59)) ∨ ((nuP t (p + 1) 44 ∧ nuP t (nxF t (p + 1)) 44 ∧ nuP t (nxF t (nxF t (p + 1))) 59) ∧ z = nxF t (nxF t (nxF t (p + 1))) ∧ wI u (r + 5) 0 = nmF t (p + 1) ∧ wI u (r + 5) 1 = nmF t (nxF t (p + 1)) ∧ wI u (r + 5) 2 = nmF t (nxF t (nxF t (p + 1)))))) := by
  have n1 := nx_r t (p + 1)
  have n2 := nx_r t (nxF t (p + 1))
  have n3 := nx_r t (nxF t (nxF t (p + 1)))
  refine i_X3_readNumbers (k_X3_readNumbers_0 (sp_letterAt hT okt hp.1 (by omega)) (by rw [h]; exact sp_nb3) (fun _ => k_X3_readNumbers_19 ?_) (fun q => absurd q (by decide)))
  refine rn_step hS hT okt hx (by omega) (by omega) (fun q u hu => ⟨_, rfl, hu, Or.inl ⟨rfl, fun h2 => q h2.1⟩⟩) (fun q o => ?_)
  have hF : Fr (fun a => a = r + 5) w (stI w (r + 5) 0 (nmF t (p + 1))) := Fr.st rfl
  refine rn_step (hS.fr hF) (hT.fr hF hx) okt hx (by omega) (by omega) (fun q2 u hu => ⟨_, rfl, hF.trans hu, Or.inl ⟨rfl, fun h2 => q2 h2.2.1⟩⟩) (fun q2 o => ?_)
  have hF2 : Fr (fun a => a = r + 5) w (stI (stI w (r + 5) 0 (nmF t (p + 1))) (r + 5) (0 + 1) (nmF t (nxF t (p + 1)))) := hF.trans (Fr.st rfl)
  refine rn_step (hS.fr hF2) (hT.fr hF2 hx) okt hx (by omega) (by omega) (fun q3 u hu => ⟨_, rfl, hF2.trans hu, Or.inl ⟨rfl, fun h2 => q3 h2.2.2⟩⟩) (fun q3 o => ?_)
  exact k_X3_readNumbers_27 (fun _ => k_X3_readNumbers_114 ⟨_, rfl, hF2.trans (Fr.st rfl), Or.inr ⟨⟨q, q2, q3⟩, rfl, by rw [wI_skip (by decide), wI_skip (by decide), wI_hit], by rw [wI_skip (by decide)]; exact wI_hit, wI_hit⟩⟩) (fun q2 => absurd q2 (by omega))
/-- a room's own objects -/
def PcR (r : Nat) : Nat → Prop := fun a => r ≤ a ∧ a ≤ r + 5
theorem RoomC.fr5 {P : Nat → Prop} {u : Wd} {ρ : Rm} (h : RoomC w r ρ) (g : Fr P w u) (hp : ∀ a, r ≤ a → a ≤ r + 4 → ¬ P a) : RoomC u r ρ := by
  obtain ⟨h0, h1, h2, h3⟩ := h
  refine ⟨h0.fr g, fun i a b => ?_, fun s a b => ?_, fun k a b => ?_⟩
  · rw [g.2.1 _ (hp _ (by omega) (by omega))]; exact h1 i a b
  · rw [g.2.1 _ (hp _ (by omega) (by omega)), g.2.1 _ (hp _ (by omega) (by omega)), g.2.1 _ (hp _ (by omega) (by omega))]; exact h2 s a b
  · rw [g.2.1 _ (hp _ (by omega) (by omega))]; exact h3 k a b
theorem room_set1 {ρ : Rm} {i a : Int} (h : RoomC w r ρ) (hi : 2 ≤ i ∧ i < 8) : RoomC (stI w r (i + 5) a) r (set1 ρ i a) := by
  have hF : Fr (fun a => a = r) w (stI w r (i + 5) a) := Fr.st rfl
  obtain ⟨h0, h1, h2, h3⟩ := h
  refine ⟨h0.fr hF, fun j j0 j1 => ?_, fun s s0 s1 => ?_, fun k k0 k1 => ?_⟩
  · by_cases e : j = i
    · rw [e, wI_hit, set1_hit]
    · rw [wI_skip (by omega), set1_ne e]; exact h1 j j0 j1
  · rw [set1_ne (by omega)] at s1
    rw [wI_st_ne (by omega), wI_st_ne (by omega), wI_st_ne (by omega)]
    exact h2 s s0 s1
  · rw [set1_ne (by omega)] at k1
    rw [wI_st_ne (by omega)]
    exact h3 k k0 k1
theorem sp_takeStrip {ρ : Rm} {a b c : Int} (h : RoomC w r ρ) (ok : okD ρ) (ha : 0 ≤ a ∧ a ≤ 99) (hb : 0 ≤ b ∧ b ≤ 99) (hc : 0 ≤ c ∧ c ≤ 99) : SpI Γ m_X3_takeStrip [vR r, vI a, vI b, vI c] w (fun z u => Fr (PcR r) w u ∧ ((z = 1 ∧ (rS ρ 0 < 12 ∧ (1 ≤ a ∧ a ≤ 40) ∧ (0 ≤ b ∧ b ≤ 9) ∧ 0 ≤ c ∧ c ≤ 9) ∧ RoomC u r (addS ρ a b c)) ∨ (z = 0 ∧ ¬ (rS ρ 0 < 12 ∧ (1 ≤ a ∧ a ≤ 40) ∧ (0 ≤ b ∧ b ≤ 9) ∧ 0 ≤ c ∧ c ≤ 9)))) := by
  obtain ⟨⟨s0, s1, s2, s3, s4, s5, t0, t1, t2, t3, t4⟩, h1, h2, h3⟩ := id h
  have o0 := ok.1
  have e5 : wI w r 5 = rS ρ 0 := h1 0 (by omega) (by omega)
  refine i_X3_takeStrip (k_X3_takeStrip_0 (fun q => k_X3_takeStrip_19 ⟨_, rfl, Fr.rfl, Or.inr ⟨rfl, fun g => by omega⟩⟩) (fun q => ?_))
  by_cases q1 : 1 ≤ a ∧ a ≤ 40
  · refine k_X3_takeStrip_9 (sp_within1 q1 (by omega) (by omega) (by omega)) (fun _ => ?_) (fun q => absurd q (by decide))
    by_cases q2 : 0 ≤ b ∧ b ≤ 9
    · refine k_X3_takeStrip_21 (sp_within1 q2 (by omega) (by omega) (by omega)) (fun q => absurd q (by decide)) (fun _ => ?_)
      by_cases q3 : 0 ≤ c ∧ c ≤ 9
      · refine k_X3_takeStrip_31 (sp_within1 q3 (by omega) (by omega) (by omega)) (fun _ => ?_) (fun q => absurd q (by decide))
        rw [e5] at q
        refine k_X3_takeStrip_43 (q1 := r + 1) (sp_put (n := 12) s1 (by omega) (by omega)) (fun u hu => ?_)
        subst hu
        have f1 : Fr (PcR r) w (stI w (r + 1) (wI w r 5) a) := Fr.st ⟨by omega, by omega⟩
        have g1 : wI (stI w (r + 1) (wI w r 5) a) r 5 = wI w r 5 := wI_st_ne (by omega)
        refine k_X3_takeStrip_55 (q1 := r + 2) (sp_put (n := 12) s2 (by omega) (by omega)) (fun u hu => ?_)
        subst hu
        rw [g1]
        have f2 : Fr (PcR r) w (stI (stI w (r + 1) (wI w r 5) a) (r + 2) (wI w r 5) b) := f1.trans (Fr.st ⟨by omega, by omega⟩)
        have g2 : wI (stI (stI w (r + 1) (wI w r 5) a) (r + 2) (wI w r 5) b) r 5 = wI w r 5 := (wI_st_ne (by omega)).trans g1
        refine k_X3_takeStrip_67 (q1 := r + 3) (sp_put (n := 12) s3 (by omega) (by omega)) (fun u hu => ?_)
        subst hu
        rw [g2]
        have f3 : Fr (PcR r) w (stI (stI (stI w (r + 1) (wI w r 5) a) (r + 2) (wI w r 5) b) (r + 3) (wI w r 5) c) := f2.trans (Fr.st ⟨by omega, by omega⟩)
        have g3 : wI (stI (stI (stI w (r + 1) (wI w r 5) a) (r + 2) (wI w r 5) b) (r + 3) (wI w r 5) c) r 5 = wI w r 5 := (wI_st_ne (by omega)).trans g2
        refine k_X3_takeStrip_79 ⟨_, rfl, ?_⟩
        rw [g3, e5]
        rw [e5] at f3
        have f4 : Fr (PcR r) w (stI (stI (stI (stI w (r + 1) (rS ρ 0) a) (r + 2) (rS ρ 0) b) (r + 3) (rS ρ 0) c) r 5 (rS ρ 0 + 1)) := f3.trans (Fr.st ⟨by omega, by omega⟩)
        have e0 : rS (addS ρ a b c) 0 = rS ρ 0 + 1 := by show upI ρ.1 0 (rS ρ 0 + 1) 0 = _; exact upI_hit
        have en : ∀ i, i ≠ 0 → rS (addS ρ a b c) i = rS ρ i := fun i hi => upI_ne hi
        refine ⟨f4, Or.inl ⟨rfl, ⟨by omega, q1, q2, q3⟩, h.1.fr f4, fun i i0 i1 => ?_, fun s z0 z1 => ?_, fun k k0 k1 => ?_⟩⟩
        · by_cases e : i = 0
          · rw [e, e0]; exact wI_hit
          · rw [en i e, wI_skip (by omega), wI_st_ne (by omega), wI_st_ne (by omega), wI_st_ne (by omega)]; exact h1 i i0 i1
        · rw [e0] at z1
          have a1 : rL (addS ρ a b c) s = if s = rS ρ 0 then a else rL ρ s := rfl
          have a2 : rG (addS ρ a b c) s = if s = rS ρ 0 then b else rG ρ s := rfl
          have a3 : rT (addS ρ a b c) s = if s = rS ρ 0 then c else rT ρ s := rfl
          rw [a1, a2, a3]
          by_cases e : s = rS ρ 0
          · rw [if_pos e, if_pos e, if_pos e, e]
            refine ⟨?_, ?_, ?_⟩
            · rw [wI_st_ne (by omega), wI_st_ne (by omega), wI_st_ne (by omega), wI_hit]
            · rw [wI_st_ne (by omega), wI_st_ne (by omega), wI_hit]
            · rw [wI_st_ne (by omega), wI_hit]
          · rw [if_neg e, if_neg e, if_neg e]
            have z := h2 s z0 (by omega)
            refine ⟨?_, ?_, ?_⟩
            · rw [wI_st_ne (by omega), wI_st_ne (by omega), wI_st_ne (by omega), wI_skip e]; exact z.1
            · rw [wI_st_ne (by omega), wI_st_ne (by omega), wI_skip e, wI_st_ne (by omega)]; exact z.2.1
            · rw [wI_st_ne (by omega), wI_skip e, wI_st_ne (by omega), wI_st_ne (by omega)]; exact z.2.2
        · rw [en 1 (by decide)] at k1
          rw [wI_st_ne (by omega), wI_st_ne (by omega), wI_st_ne (by omega), wI_st_ne (by omega)]
          exact h3 k k0 k1
      · exact k_X3_takeStrip_31 (sp_within0 q3 (by omega) (by omega) (by omega)) (fun q => absurd rfl q) (fun _ => k_X3_takeStrip_41 ⟨_, rfl, Fr.rfl, Or.inr ⟨rfl, fun g => q3 g.2.2.2⟩⟩)
    · exact k_X3_takeStrip_21 (sp_within0 q2 (by omega) (by omega) (by omega)) (fun _ => k_X3_takeStrip_41 ⟨_, rfl, Fr.rfl, Or.inr ⟨rfl, fun g => q2 g.2.2.1⟩⟩) (fun q => absurd rfl q)
  · exact k_X3_takeStrip_9 (sp_within0 q1 (by omega) (by omega) (by omega)) (fun q => absurd rfl q) (fun _ => k_X3_takeStrip_19 ⟨_, rfl, Fr.rfl, Or.inr ⟨rfl, fun g => q1 g.2.1⟩⟩)
theorem sp_takeDamp {ρ : Rm} {a : Int} (h : RoomC w r ρ) (ok : okD ρ) (ha : 0 ≤ a ∧ a ≤ 99) : SpI Γ m_X3_takeDamp [vR r, vI a] w (fun z u => Fr (PcR r) w u ∧ ((z = 1 ∧ (rS ρ 1 < 12 ∧ 0 ≤ a ∧ a ≤ 9) ∧ RoomC u r (addD ρ a)) ∨ (z = 0 ∧ ¬ (rS ρ 1 < 12 ∧ 0 ≤ a ∧ a ≤ 9)))) := by
  obtain ⟨⟨s0, s1, s2, s3, s4, s5, t0, t1, t2, t3, t4⟩, h1, h2, h3⟩ := id h
  have o0 := ok.2.1
  have e6 : wI w r 6 = rS ρ 1 := h1 1 (by omega) (by omega)
  refine i_X3_takeDamp (k_X3_takeDamp_0 (fun q => k_X3_takeDamp_19 ⟨_, rfl, Fr.rfl, Or.inr ⟨rfl, fun g => by omega⟩⟩) (fun q => ?_))
  by_cases q1 : 0 ≤ a ∧ a ≤ 9
  · refine k_X3_takeDamp_9 (sp_within1 q1 (by omega) (by omega) (by omega)) (fun _ => ?_) (fun q => absurd q (by decide))
    rw [e6] at q
    refine k_X3_takeDamp_21 (q1 := r + 4) (sp_put (n := 12) s4 (by omega) (by omega)) (fun u hu => ?_)
    subst hu
    have g1 : wI (stI w (r + 4) (wI w r 6) a) r 6 = wI w r 6 := wI_st_ne (by omega)
    refine k_X3_takeDamp_33 ⟨_, rfl, ?_⟩
    rw [g1, e6]
    have f4 : Fr (PcR r) w (stI (stI w (r + 4) (rS ρ 1) a) r 6 (rS ρ 1 + 1)) := (Fr.st (P := PcR r) ⟨by omega, by omega⟩).trans (Fr.st (P := PcR r) ⟨by omega, by omega⟩)
    have e0 : rS (addD ρ a) 1 = rS ρ 1 + 1 := by show upI ρ.1 1 (rS ρ 1 + 1) 1 = _; exact upI_hit
    have en : ∀ i, i ≠ 1 → rS (addD ρ a) i = rS ρ i := fun i hi => upI_ne hi
    refine ⟨f4, Or.inl ⟨rfl, ⟨by omega, q1⟩, h.1.fr f4, fun i i0 i1 => ?_, fun s z0 z1 => ?_, fun k k0 k1 => ?_⟩⟩
    · by_cases e : i = 1
      · rw [e, e0]; exact wI_hit
      · rw [en i e, wI_skip (by omega), wI_st_ne (by omega)]; exact h1 i i0 i1
    · rw [en 0 (by decide)] at z1
      rw [wI_st_ne (by omega), wI_st_ne (by omega), wI_st_ne (by omega), wI_st_ne (by omega), wI_st_ne (by omega), wI_st_ne (by omega)]
      exact h2 s z0 z1
    · rw [e0] at k1
      have a1 : rD (addD ρ a) k = if k = rS ρ 1 then a else rD ρ k := rfl
      rw [a1, wI_st_ne (by omega), wI_stI]
      by_cases e : k = rS ρ 1
      · rw [if_pos ⟨rfl, e⟩, if_pos e]
      · rw [if_neg (fun g => e g.2), if_neg e]
        exact h3 k k0 (by omega)
  · exact k_X3_takeDamp_9 (sp_within0 q1 (by omega) (by omega) (by omega)) (fun q => absurd rfl q) (fun _ => k_X3_takeDamp_19 ⟨_, rfl, Fr.rfl, Or.inr ⟨rfl, fun g => q1 g.2⟩⟩)
end
