section
variable {Γ : Gm} {w : Wd} {x m r : Nat}
theorem itF_s {t : Tx} {ρ : Rm} {p : Int} (h : ltF t p = 115) : itF t ρ p = if rS ρ 0 < 12 ∧ nuR t (p + 1) 44 1 40 ∧ nuR t (nxF t (p + 1)) 44 0 9 ∧ nuR t (nxF t (nxF t (p + 1))) 59 0 9 then some (nxF t (nxF t (nxF t (p + 1))), addS ρ (nmF t (p + 1)) (nmF t (nxF t (p + 1))) (nmF t (nxF t (nxF t (p + 1))))) else none := by
  unfold itF; rw [if_pos h]
theorem itF_r {t : Tx} {ρ : Rm} {p : Int} (h : ltF t p = 114) : itF t ρ p = if nuR t (p + 1) 44 1 6 ∧ nuR t (nxF t (p + 1)) 59 1 99 then some (nxF t (nxF t (p + 1)), set2 ρ 2 (nmF t (p + 1)) (nmF t (nxF t (p + 1)))) else none := by
  unfold itF; rw [if_neg (by omega), if_pos h]
theorem itF_o {t : Tx} {ρ : Rm} {p : Int} (h : ltF t p = 111) : itF t ρ p = if nuR t (p + 1) 59 0 5 then some (nxF t (p + 1), set1 ρ 4 (nmF t (p + 1))) else none := by
  unfold itF; rw [if_neg (by omega), if_neg (by omega), if_pos h]
theorem itF_h {t : Tx} {ρ : Rm} {p : Int} (h : ltF t p = 104) : itF t ρ p = if nuR t (p + 1) 59 1 30 then some (nxF t (p + 1), set1 ρ 5 (nmF t (p + 1))) else none := by
  unfold itF; rw [if_neg (by omega), if_neg (by omega), if_neg (by omega), if_pos h]
theorem itF_k {t : Tx} {ρ : Rm} {p : Int} (h : ltF t p = 107) : itF t ρ p = if nuR t (p + 1) 44 0 3 ∧ nuR t (nxF t (p + 1)) 59 1 9 then some (nxF t (nxF t (p + 1)), set2 ρ 6 (nmF t (p + 1)) (nmF t (nxF t (p + 1)))) else none := by
  unfold itF; rw [if_neg (by omega), if_neg (by omega), if_neg (by omega), if_neg (by omega), if_pos h]
theorem itF_d {t : Tx} {ρ : Rm} {p : Int} (h : ltF t p = 100) : itF t ρ p = if rS ρ 1 < 12 ∧ nuR t (p + 1) 59 0 9 then some (nxF t (p + 1), addD ρ (nmF t (p + 1))) else none := by
  unfold itF; rw [if_neg (by omega), if_neg (by omega), if_neg (by omega), if_neg (by omega), if_neg (by omega), if_pos h]
theorem itF_n {t : Tx} {ρ : Rm} {p : Int} (h : ltF t p ≠ 100 ∧ ltF t p ≠ 104 ∧ ltF t p ≠ 107 ∧ ltF t p ≠ 111 ∧ ltF t p ≠ 114 ∧ ltF t p ≠ 115) : itF t ρ p = none := by
  unfold itF; rw [if_neg (by omega), if_neg (by omega), if_neg (by omega), if_neg (by omega), if_neg (by omega), if_neg (by omega)]
theorem item_step {Ret : Option Value → Wd → Prop} {t : Tx} {p i : Int} {ρ : Rm} {o5 : Option Value} (okt : okX t) (ok : okD ρ) (hp : 0 ≤ p ∧ p < 700) (hT : TxS w x m t) (hx : ¬ PcR r x) (hR : RoomC w r ρ)
    (kn : itF t ρ p = none → ∀ v, RoomS v r → Fr (PcR r) w v → Ret (some (vI p)) v)
    (ks : ∀ q, itF t ρ p = some q → ∀ v, RoomC v r q.2 → Fr (PcR r) w v → G Γ m_X3_readText Ret 0 0 51 [some (vR r), some (vR x), some (vI t.1), some (vI p), some (vI i), some (vI q.1)] [] v) :
    G Γ m_X3_readText Ret 0 0 20 [some (vR r), some (vR x), some (vI t.1), some (vI p), some (vI i), o5] [] w := by
  have n1 := nx_r t (p + 1)
  have n2 := nx_r t (nxF t (p + 1))
  have n3 := nx_r t (nxF t (nxF t (p + 1)))
  have hS := hR.1
  have s0 := hS.1
  have hx5 : x ≠ r + 5 := fun e => hx ⟨by omega, by omega⟩
  have fm : ∀ {u : Wd}, Fr (fun a => a = r + 5) w u → Fr (PcR r) w u := fun g => g.mono (fun a ha => ⟨by omega, by omega⟩)
  have fr : ∀ {u : Wd}, Fr (fun a => a = r + 5) w u → RoomC u r ρ := fun g => hR.fr5 g (fun a a1 a2 => by omega)
  have fail : ∀ {u : Wd}, itF t ρ p = none → Fr (fun a => a = r + 5) w u → G Γ m_X3_readText Ret 0 0 27 [some (vR r), some (vR x), some (vI t.1), some (vI p), some (vI i), o5] [vI (-4)] u := fun e g => k_X3_readText_27 (fun _ => k_X3_readText_49 (kn e _ (hS.fr g) (fm g))) (fun q => absurd rfl q)
  by_cases hs : ltF t p = 115
  · have e := itF_s (ρ := ρ) hs
    refine k_X3_readText_20 (sp_rn3 hS hT okt hx5 (by omega) hs) (fun z u hu => ?_)
    obtain ⟨hF, ⟨rfl, hn⟩ | ⟨hn, rfl, e1, e2, e3⟩⟩ := hu
    · exact fail (by rw [e, if_neg (fun g => hn ⟨g.2.1.1, g.2.2.1.1, g.2.2.2.1⟩)]) hF
    · refine it_fin okt (by omega) hT hx hS (fm hF) (by omega) ?_ ?_ (by rw [hs]; exact ti_s (fr hF) ok e1 e2 e3 (nmT_r okt (by omega) hn.1.1) (nmT_r okt (by omega) hn.2.1.1) (nmT_r okt (by omega) hn.2.2.1)) kn ks
      · intro g; rw [e, if_pos ⟨g.1, ⟨hn.1, g.2.1⟩, ⟨hn.2.1, g.2.2.1⟩, hn.2.2, g.2.2.2⟩]
      · intro g; rw [e, if_neg (fun y => g ⟨y.1, y.2.1.2, y.2.2.1.2, y.2.2.2.2⟩)]
  by_cases hr : ltF t p = 114
  · have e := itF_r (ρ := ρ) hr
    refine k_X3_readText_20 (sp_rn2 hS hT okt hx5 (by omega) (Or.inr hr)) (fun z u hu => ?_)
    obtain ⟨hF, ⟨rfl, hn⟩ | ⟨hn, rfl, e1, e2⟩⟩ := hu
    · exact fail (by rw [e, if_neg (fun g => hn ⟨g.1.1, g.2.1⟩)]) hF
    · refine it_fin okt (by omega) hT hx hS (fm hF) (by omega) ?_ ?_ (by rw [hr]; exact ti_r (fr hF) e1 e2 (nmT_r okt (by omega) hn.1.1) (nmT_r okt (by omega) hn.2.1)) kn ks
      · intro g; rw [e, if_pos ⟨⟨hn.1, g.1⟩, hn.2, g.2⟩]
      · intro g; rw [e, if_neg (fun y => g ⟨y.1.2, y.2.2⟩)]
  by_cases ho : ltF t p = 111
  · have e := itF_o (ρ := ρ) ho
    refine k_X3_readText_20 (sp_rn1 hS hT okt hx5 (by omega) (Or.inr (Or.inr ho))) (fun z u hu => ?_)
    obtain ⟨hF, ⟨rfl, hn⟩ | ⟨hn, rfl, e1⟩⟩ := hu
    · exact fail (by rw [e, if_neg (fun g => hn g.1)]) hF
    · refine it_fin okt (by omega) hT hx hS (fm hF) (by omega) ?_ ?_ (by rw [ho]; exact ti_o (fr hF) e1 (nmT_r okt (by omega) hn.1)) kn ks
      · intro g; rw [e, if_pos ⟨hn, g⟩]
      · intro g; rw [e, if_neg (fun y => g y.2)]
  by_cases hh : ltF t p = 104
  · have e := itF_h (ρ := ρ) hh
    refine k_X3_readText_20 (sp_rn1 hS hT okt hx5 (by omega) (Or.inr (Or.inl hh))) (fun z u hu => ?_)
    obtain ⟨hF, ⟨rfl, hn⟩ | ⟨hn, rfl, e1⟩⟩ := hu
    · exact fail (by rw [e, if_neg (fun g => hn g.1)]) hF
    · refine it_fin okt (by omega) hT hx hS (fm hF) (by omega) ?_ ?_ (by rw [hh]; exact ti_h (fr hF) e1 (nmT_r okt (by omega) hn.1)) kn ks
      · intro g; rw [e, if_pos ⟨hn, g⟩]
      · intro g; rw [e, if_neg (fun y => g y.2)]
  by_cases hk : ltF t p = 107
  · have e := itF_k (ρ := ρ) hk
    refine k_X3_readText_20 (sp_rn2 hS hT okt hx5 (by omega) (Or.inl hk)) (fun z u hu => ?_)
    obtain ⟨hF, ⟨rfl, hn⟩ | ⟨hn, rfl, e1, e2⟩⟩ := hu
    · exact fail (by rw [e, if_neg (fun g => hn ⟨g.1.1, g.2.1⟩)]) hF
    · refine it_fin okt (by omega) hT hx hS (fm hF) (by omega) ?_ ?_ (by rw [hk]; exact ti_k (fr hF) e1 e2 (nmT_r okt (by omega) hn.1.1) (nmT_r okt (by omega) hn.2.1)) kn ks
      · intro g; rw [e, if_pos ⟨⟨hn.1, g.1⟩, hn.2, g.2⟩]
      · intro g; rw [e, if_neg (fun y => g ⟨y.1.2, y.2.2⟩)]
  by_cases hd : ltF t p = 100
  · have e := itF_d (ρ := ρ) hd
    refine k_X3_readText_20 (sp_rn1 hS hT okt hx5 (by omega) (Or.inl hd)) (fun z u hu => ?_)
    obtain ⟨hF, ⟨rfl, hn⟩ | ⟨hn, rfl, e1⟩⟩ := hu
    · exact fail (by rw [e, if_neg (fun g => hn g.2.1)]) hF
    · refine it_fin okt (by omega) hT hx hS (fm hF) (by omega) ?_ ?_ (by rw [hd]; exact ti_d (fr hF) ok e1 (nmT_r okt (by omega) hn.1)) kn ks
      · intro g; rw [e, if_pos ⟨g.1, hn, g.2⟩]
      · intro g; rw [e, if_neg (fun y => g ⟨y.1, y.2.2⟩)]
  refine k_X3_readText_20 (sp_rn0 hT okt (by omega) ⟨hd, hh, hk, ho, hr, hs⟩) (fun z u hu => ?_)
  obtain ⟨rfl, rfl⟩ := hu
  exact fail (itF_n ⟨hd, hh, hk, ho, hr, hs⟩) Fr.rfl
theorem text_loop {Ret : Option Value → Wd → Prop} {t : Tx} (okt : okX t) (hx : ¬ PcR r x) : ∀ (n : Nat) (p i : Int) (ρ : Rm) (w : Wd) (o5 : Option Value), t.1 ≤ p + n → (0 ≤ p ∧ p ≤ 215) → (0 ≤ i ∧ i ≤ p) → okD ρ → TxS w x m t → RoomC w r ρ →
    (∀ z u, z = (scF t n p ρ).1 → (z = -4 → RoomC u r (scF t n p ρ).2) → Fr (PcR r) w u → Ret (some (vI z)) u) →
    G Γ m_X3_readText Ret 0 0 9 [some (vR r), some (vR x), some (vI t.1), some (vI p), some (vI i), o5] [] w := by
  intro n
  induction n with
  | zero =>
    intro p i ρ w o5 hn hp hi ok hT hR kr
    have ht := okt.1
    have fin := kr (-4) w rfl (fun _ => hR) Fr.rfl
    exact k_X3_readText_9 (fun _ => k_X3_readText_60 fin) (fun _ => k_X3_readText_15 (fun _ => k_X3_readText_60 fin) (fun q => absurd q (by omega)))
  | succ n ih =>
    intro p i ρ w o5 hn hp hi ok hT hR kr
    have ht := okt.1
    by_cases h1 : t.1 ≤ p
    · have e : scF t (n + 1) p ρ = (-4, ρ) := by
        show (if t.1 ≤ p then _ else _) = _
        rw [if_pos h1]
      rw [e] at kr
      have fin := kr (-4) w rfl (fun _ => hR) Fr.rfl
      exact k_X3_readText_9 (fun _ => k_X3_readText_60 fin) (fun _ => k_X3_readText_15 (fun _ => k_X3_readText_60 fin) (fun q => absurd q (by omega)))
    · have e : scF t (n + 1) p ρ = match itF t ρ p with
          | none => (p, ρ)
          | some q => scF t n q.1 q.2 := by
        show (if t.1 ≤ p then _ else _) = _
        rw [if_neg h1]
        rfl
      rw [e] at kr
      refine k_X3_readText_9 (fun q => absurd q (by omega)) (fun _ => k_X3_readText_15 (fun q => absurd q (by omega)) (fun _ => ?_))
      refine item_step okt ok (by omega) hT hx hR (fun e2 v hv hF => ?_) (fun q e2 v hv hF => ?_)
      · rw [e2] at kr
        exact kr p v rfl (fun q => by omega) hF
      · rw [e2] at kr
        have iq := it_ok ok e2
        refine k_X3_readText_51 (ih q.1 (i + 1) q.2 v _ (by omega) (by omega) (by omega) iq.1 (hT.fr hF hx) hv (fun z u e3 h3 hF2 => kr z u e3 h3 (hF.trans hF2)))
theorem sp_readText {t : Tx} (okt : okX t) (hx : ¬ PcR r x) (hT : TxS w x m t) (hS : RoomS w r) : SpI Γ m_X3_readText [vR r, vR x, vI t.1] w (fun z u => z = (txF t).1 ∧ (z = -4 → RoomC u r (txF t).2) ∧ Fr (PcR r) w u) := by
  obtain ⟨s0, s1, s2, s3, s4, s5, t0, t1, t2, t3, t4⟩ := id hS
  have ht := okt.1
  refine i_X3_readText (k_X3_readText_0 (i_X3_clear (k_X3_clear_0 ⟨rfl, rfl⟩) : SpV Γ m_X3_clear [vR r] w (fun u => u = _)) (fun u hu => ?_))
  have hF : Fr (PcR r) w u := by
    rw [hu]
    have y : ∀ {v : Wd} {k a : Int}, Fr (PcR r) v (stI v r k a) := Fr.st ⟨by omega, by omega⟩
    exact ((((((y.trans y).trans y).trans y).trans y).trans y).trans y).trans y
  have hR : RoomC u r defR := by
    refine ⟨hS.fr hF, fun i i0 i1 => ?_, fun s z0 z1 => ?_, fun k k0 k1 => ?_⟩
    · rw [hu]
      have hi : i = 0 ∨ i = 1 ∨ i = 2 ∨ i = 3 ∨ i = 4 ∨ i = 5 ∨ i = 6 ∨ i = 7 := by omega
      rcases hi with rfl | rfl | rfl | rfl | rfl | rfl | rfl | rfl <;>
        simp only [wI_stI] <;> rfl
    · have z1' : s < 0 := z1
      omega
    · have z1' : k < 0 := k1
      omega
  refine k_X3_readText_4 (text_loop (m := m) okt hx 201 0 0 defR u _ (by omega) (by omega) (by omega) okD_def (hT.fr hF hx) hR (fun z v e1 e2 hF2 => ⟨z, rfl, e1, e2, hF.trans hF2⟩))
end
