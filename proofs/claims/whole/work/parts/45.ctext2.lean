section
variable {Γ : Gm} {w : Wd} {x m r : Nat}
theorem ti_s {ρ : Rm} {a b c : Int} (h : RoomC w r ρ) (ok : okD ρ) (ea : wI w (r + 5) 0 = a) (eb : wI w (r + 5) 1 = b) (ec : wI w (r + 5) 2 = c) (ha : 0 ≤ a ∧ a ≤ 99) (hb : 0 ≤ b ∧ b ≤ 99) (hc : 0 ≤ c ∧ c ≤ 99) : SpI Γ m_X3_takeItem [vR r, vI 115] w (fun z u => Fr (PcR r) w u ∧ ((z = 1 ∧ (rS ρ 0 < 12 ∧ (1 ≤ a ∧ a ≤ 40) ∧ (0 ≤ b ∧ b ≤ 9) ∧ 0 ≤ c ∧ c ≤ 9) ∧ RoomC u r (addS ρ a b c)) ∨ (z = 0 ∧ ¬ (rS ρ 0 < 12 ∧ (1 ≤ a ∧ a ≤ 40) ∧ (0 ≤ b ∧ b ≤ 9) ∧ 0 ≤ c ∧ c ≤ 9)))) := by
  obtain ⟨s0, s1, s2, s3, s4, s5, t0, t1, t2, t3, t4⟩ := id h.1
  have c1 := sp_at (Γ := Γ) (w := w) s5 (by omega) (a := 0) (by omega)
  have c2 := sp_at (Γ := Γ) (w := w) s5 (by omega) (a := 1) (by omega)
  have c3 := sp_at (Γ := Γ) (w := w) s5 (by omega) (a := 2) (by omega)
  rw [ea] at c1
  rw [eb] at c2
  rw [ec] at c3
  refine i_X3_takeItem (k_X3_takeItem_0 (q1 := r + 5) c1 c2 (fun _ => ?_) (fun q => absurd q (by decide)) (fun q => absurd q (by decide)) (fun q => absurd q (by decide)) (fun q => absurd q (by decide)) (fun q => absurd q (by decide)) (fun q => absurd q (by decide)))
  refine k_X3_takeItem_96 (q1 := r + 5) c3 (sp_takeStrip h ok ha hb hc) (fun z u hu => ?_)
  have hz : z = 0 ∨ z = 1 := by
    rcases hu.2 with q | q
    · exact Or.inr q.1
    · exact Or.inl q.1
  exact k_X3_takeItem_110 ⟨_, rfl, hu⟩
theorem ti_d {ρ : Rm} {a : Int} (h : RoomC w r ρ) (ok : okD ρ) (ea : wI w (r + 5) 0 = a) (ha : 0 ≤ a ∧ a ≤ 99) : SpI Γ m_X3_takeItem [vR r, vI 100] w (fun z u => Fr (PcR r) w u ∧ ((z = 1 ∧ (rS ρ 1 < 12 ∧ 0 ≤ a ∧ a ≤ 9) ∧ RoomC u r (addD ρ a)) ∨ (z = 0 ∧ ¬ (rS ρ 1 < 12 ∧ 0 ≤ a ∧ a ≤ 9)))) := by
  obtain ⟨s0, s1, s2, s3, s4, s5, t0, t1, t2, t3, t4⟩ := id h.1
  have c1 := sp_at (Γ := Γ) (w := w) s5 (by omega) (a := 0) (by omega)
  have c2 := sp_at (Γ := Γ) (w := w) s5 (by omega) (a := 1) (by omega)
  rw [ea] at c1
  refine i_X3_takeItem (k_X3_takeItem_0 (q1 := r + 5) c1 c2 (fun q => absurd q (by decide)) (fun q => absurd q (by decide)) (fun q => absurd q (by decide)) (fun q => absurd q (by decide)) (fun q => absurd q (by decide)) (fun _ => ?_) (fun q => absurd q (by decide)))
  refine k_X3_takeItem_207 (sp_takeDamp h ok ha) (fun z u hu => ?_)
  have hz : z = 0 ∨ z = 1 := by
    rcases hu.2 with q | q
    · exact Or.inr q.1
    · exact Or.inl q.1
  exact k_X3_takeItem_212 ⟨_, rfl, hu⟩
theorem ti_o {ρ : Rm} {a : Int} (h : RoomC w r ρ) (ea : wI w (r + 5) 0 = a) (ha : 0 ≤ a ∧ a ≤ 99) : SpI Γ m_X3_takeItem [vR r, vI 111] w (fun z u => Fr (PcR r) w u ∧ ((z = 1 ∧ (0 ≤ a ∧ a ≤ 5) ∧ RoomC u r (set1 ρ 4 a)) ∨ (z = 0 ∧ ¬ (0 ≤ a ∧ a ≤ 5)))) := by
  obtain ⟨s0, s1, s2, s3, s4, s5, t0, t1, t2, t3, t4⟩ := id h.1
  have c1 := sp_at (Γ := Γ) (w := w) s5 (by omega) (a := 0) (by omega)
  have c2 := sp_at (Γ := Γ) (w := w) s5 (by omega) (a := 1) (by omega)
  rw [ea] at c1
  have hF : Fr (PcR r) w (stI w r 9 a) := Fr.st ⟨by omega, by omega⟩
  refine i_X3_takeItem (k_X3_takeItem_0 (q1 := r + 5) c1 c2 (fun q => absurd q (by decide)) (fun q => absurd q (by decide)) (fun _ => ?_) (fun q => absurd q (by decide)) (fun q => absurd q (by decide)) (fun q => absurd q (by decide)) (fun q => absurd q (by decide)))
  by_cases q : 0 ≤ a ∧ a ≤ 5
  · exact k_X3_takeItem_147 (sp_within1 q (by omega) (by omega) (by omega)) ⟨_, rfl, hF, Or.inl ⟨rfl, q, room_set1 (i := 4) h (by decide)⟩⟩
  · exact k_X3_takeItem_147 (sp_within0 q (by omega) (by omega) (by omega)) ⟨_, rfl, hF, Or.inr ⟨rfl, q⟩⟩
theorem ti_h {ρ : Rm} {a : Int} (h : RoomC w r ρ) (ea : wI w (r + 5) 0 = a) (ha : 0 ≤ a ∧ a ≤ 99) : SpI Γ m_X3_takeItem [vR r, vI 104] w (fun z u => Fr (PcR r) w u ∧ ((z = 1 ∧ (1 ≤ a ∧ a ≤ 30) ∧ RoomC u r (set1 ρ 5 a)) ∨ (z = 0 ∧ ¬ (1 ≤ a ∧ a ≤ 30)))) := by
  obtain ⟨s0, s1, s2, s3, s4, s5, t0, t1, t2, t3, t4⟩ := id h.1
  have c1 := sp_at (Γ := Γ) (w := w) s5 (by omega) (a := 0) (by omega)
  have c2 := sp_at (Γ := Γ) (w := w) s5 (by omega) (a := 1) (by omega)
  rw [ea] at c1
  have hF : Fr (PcR r) w (stI w r 10 a) := Fr.st ⟨by omega, by omega⟩
  refine i_X3_takeItem (k_X3_takeItem_0 (q1 := r + 5) c1 c2 (fun q => absurd q (by decide)) (fun q => absurd q (by decide)) (fun q => absurd q (by decide)) (fun _ => ?_) (fun q => absurd q (by decide)) (fun q => absurd q (by decide)) (fun q => absurd q (by decide)))
  by_cases q : 1 ≤ a ∧ a ≤ 30
  · exact k_X3_takeItem_159 (sp_within1 q (by omega) (by omega) (by omega)) ⟨_, rfl, hF, Or.inl ⟨rfl, q, room_set1 (i := 5) h (by decide)⟩⟩
  · exact k_X3_takeItem_159 (sp_within0 q (by omega) (by omega) (by omega)) ⟨_, rfl, hF, Or.inr ⟨rfl, q⟩⟩
theorem ti_r {ρ : Rm} {a b : Int} (h : RoomC w r ρ) (ea : wI w (r + 5) 0 = a) (eb : wI w (r + 5) 1 = b) (ha : 0 ≤ a ∧ a ≤ 99) (hb : 0 ≤ b ∧ b ≤ 99) : SpI Γ m_X3_takeItem [vR r, vI 114] w (fun z u => Fr (PcR r) w u ∧ ((z = 1 ∧ ((1 ≤ a ∧ a ≤ 6) ∧ 1 ≤ b ∧ b ≤ 99) ∧ RoomC u r (set2 ρ 2 a b)) ∨ (z = 0 ∧ ¬ ((1 ≤ a ∧ a ≤ 6) ∧ 1 ≤ b ∧ b ≤ 99)))) := by
  obtain ⟨s0, s1, s2, s3, s4, s5, t0, t1, t2, t3, t4⟩ := id h.1
  have c1 := sp_at (Γ := Γ) (w := w) s5 (by omega) (a := 0) (by omega)
  have c2 := sp_at (Γ := Γ) (w := w) s5 (by omega) (a := 1) (by omega)
  rw [ea] at c1
  rw [eb] at c2
  have hF : Fr (PcR r) w (stI (stI w r 7 a) r 8 b) := (Fr.st (P := PcR r) ⟨by omega, by omega⟩).trans (Fr.st (P := PcR r) ⟨by omega, by omega⟩)
  have hR : RoomC (stI (stI w r 7 a) r 8 b) r (set2 ρ 2 a b) := room_set1 (i := 3) (room_set1 (i := 2) h (by decide)) (by decide)
  refine i_X3_takeItem (k_X3_takeItem_0 (q1 := r + 5) c1 c2 (fun q => absurd q (by decide)) (fun _ => ?_) (fun q => absurd q (by decide)) (fun q => absurd q (by decide)) (fun q => absurd q (by decide)) (fun q => absurd q (by decide)) (fun q => absurd q (by decide)))
  by_cases q : 1 ≤ a ∧ a ≤ 6
  · refine k_X3_takeItem_111 (sp_within1 q (by omega) (by omega) (by omega)) (fun g => absurd g (by decide)) (fun _ => ?_)
    by_cases q2 : 1 ≤ b ∧ b ≤ 99
    · exact k_X3_takeItem_131 (sp_within1 q2 (by omega) (by omega) (by omega)) (fun g => absurd g (by decide)) (fun _ => k_X3_takeItem_141 ⟨_, rfl, hF, Or.inl ⟨rfl, ⟨q, q2⟩, hR⟩⟩)
    · exact k_X3_takeItem_131 (sp_within0 q2 (by omega) (by omega) (by omega)) (fun _ => k_X3_takeItem_145 ⟨_, rfl, hF, Or.inr ⟨rfl, fun g => q2 g.2⟩⟩) (fun g => absurd rfl g)
  · exact k_X3_takeItem_111 (sp_within0 q (by omega) (by omega) (by omega)) (fun _ => k_X3_takeItem_145 ⟨_, rfl, hF, Or.inr ⟨rfl, fun g => q g.1⟩⟩) (fun g => absurd rfl g)
theorem ti_k {ρ : Rm} {a b : Int} (h : RoomC w r ρ) (ea : wI w (r + 5) 0 = a) (eb : wI w (r + 5) 1 = b) (ha : 0 ≤ a ∧ a ≤ 99) (hb : 0 ≤ b ∧ b ≤ 99) : SpI Γ m_X3_takeItem [vR r, vI 107] w (fun z u => Fr (PcR r) w u ∧ ((z = 1 ∧ ((0 ≤ a ∧ a ≤ 3) ∧ 1 ≤ b ∧ b ≤ 9) ∧ RoomC u r (set2 ρ 6 a b)) ∨ (z = 0 ∧ ¬ ((0 ≤ a ∧ a ≤ 3) ∧ 1 ≤ b ∧ b ≤ 9)))) := by
  obtain ⟨s0, s1, s2, s3, s4, s5, t0, t1, t2, t3, t4⟩ := id h.1
  have c1 := sp_at (Γ := Γ) (w := w) s5 (by omega) (a := 0) (by omega)
  have c2 := sp_at (Γ := Γ) (w := w) s5 (by omega) (a := 1) (by omega)
  rw [ea] at c1
  rw [eb] at c2
  have hF : Fr (PcR r) w (stI (stI w r 11 a) r 12 b) := (Fr.st (P := PcR r) ⟨by omega, by omega⟩).trans (Fr.st (P := PcR r) ⟨by omega, by omega⟩)
  have hR : RoomC (stI (stI w r 11 a) r 12 b) r (set2 ρ 6 a b) := room_set1 (i := 7) (room_set1 (i := 6) h (by decide)) (by decide)
  refine i_X3_takeItem (k_X3_takeItem_0 (q1 := r + 5) c1 c2 (fun q => absurd q (by decide)) (fun q => absurd q (by decide)) (fun q => absurd q (by decide)) (fun q => absurd q (by decide)) (fun _ => ?_) (fun q => absurd q (by decide)) (fun q => absurd q (by decide)))
  by_cases q : 0 ≤ a ∧ a ≤ 3
  · refine k_X3_takeItem_172 (sp_within1 q (by omega) (by omega) (by omega)) (fun g => absurd g (by decide)) (fun _ => ?_)
    by_cases q2 : 1 ≤ b ∧ b ≤ 9
    · exact k_X3_takeItem_191 (sp_within1 q2 (by omega) (by omega) (by omega)) (fun g => absurd g (by decide)) (fun _ => k_X3_takeItem_201 ⟨_, rfl, hF, Or.inl ⟨rfl, ⟨q, q2⟩, hR⟩⟩)
    · exact k_X3_takeItem_191 (sp_within0 q2 (by omega) (by omega) (by omega)) (fun _ => k_X3_takeItem_205 ⟨_, rfl, hF, Or.inr ⟨rfl, fun g => q2 g.2⟩⟩) (fun g => absurd rfl g)
  · exact k_X3_takeItem_172 (sp_within0 q (by omega) (by omega) (by omega)) (fun _ => k_X3_takeItem_205 ⟨_, rfl, hF, Or.inr ⟨rfl, fun g => q g.1⟩⟩) (fun g => absurd rfl g)
/-- behind the numbers -/
theorem it_fin {Ret : Option Value → Wd → Prop} {t : Tx} {p i : Int} {q1 : Int} {ρ ρ' : Rm} {C : Prop} {u : Wd} {o5 : Option Value} (okt : okX t) (hp : 0 ≤ p ∧ p < 800) (hT : TxS w x m t) (hx : ¬ PcR r x) (hS : RoomS w r) (hF : Fr (PcR r) w u) (hq : 0 ≤ q1 ∧ q1 < 1000) (hC1 : C → itF t ρ p = some (q1, ρ')) (hC2 : ¬ C → itF t ρ p = none)
    (c3 : SpI Γ m_X3_takeItem [vR r, vI (ltF t p)] u (fun z v => Fr (PcR r) u v ∧ ((z = 1 ∧ C ∧ RoomC v r ρ') ∨ (z = 0 ∧ ¬ C))))
    (kn : itF t ρ p = none → ∀ v, RoomS v r → Fr (PcR r) w v → Ret (some (vI p)) v)
    (ks : ∀ q, itF t ρ p = some q → ∀ v, RoomC v r q.2 → Fr (PcR r) w v → G Γ m_X3_readText Ret 0 0 51 [some (vR r), some (vR x), some (vI t.1), some (vI p), some (vI i), some (vI q.1)] [] v) :
    G Γ m_X3_readText Ret 0 0 27 [some (vR r), some (vR x), some (vI t.1), some (vI p), some (vI i), o5] [vI q1] u := by
  have hSu := hS.fr hF
  have s0 := hSu.1
  refine k_X3_readText_27 (fun q => absurd q (by omega)) (fun _ => k_X3_readText_36 (sp_letterAt (hT.fr hF hx) okt hp.1 (by omega)) c3 (fun z v hv => ?_))
  obtain ⟨hFv, ⟨rfl, hc, hR⟩ | ⟨rfl, hc⟩⟩ := hv
  · exact k_X3_readText_46 (fun _ => ks _ (hC1 hc) v hR (hF.trans hFv)) (fun g => absurd g (by decide))
  · exact k_X3_readText_46 (fun g => absurd rfl g) (fun _ => k_X3_readText_49 (kn (hC2 hc) v (hSu.fr hFv) (hF.trans hFv)))
end
