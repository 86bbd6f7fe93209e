/-! ===== the whole state, and how each side holds it ===== -/
/-- the text; the room; the carpet; what can be undone (oldest first); what is kept; what was seen -/
abbrev Sg : Type := (Int × (Int → Int)) × Rm × Kp × (Int × (Int → Kp)) × (Int × (Int → Kp)) × (Int × (Int → Int) × (Int → Int))
abbrev gN (σ : Sg) : Int := σ.1.1
abbrev gX (σ : Sg) (k : Int) : Int := σ.1.2 k
abbrev gR (σ : Sg) : Rm := σ.2.1
abbrev gK (σ : Sg) : Kp := σ.2.2.1
abbrev gU (σ : Sg) : Int × (Int → Kp) := σ.2.2.2.1
abbrev gE (σ : Sg) : Int × (Int → Kp) := σ.2.2.2.2.1
abbrev gV (σ : Sg) : Int × (Int → Int) × (Int → Int) := σ.2.2.2.2.2
def okP (ρ : Rm) (m : Int) (p : Int × (Int → Kp)) : Prop := (0 ≤ p.1 ∧ p.1 ≤ m) ∧ ∀ j : Int, 0 ≤ j → j < p.1 → okK ρ (p.2 j) ∧ kM (p.2 j) ≤ 999
def okV (v : Int × (Int → Int) × (Int → Int)) : Prop := (0 ≤ v.1 ∧ v.1 ≤ 6) ∧ ∀ k : Int, 0 ≤ k → k < v.1 → (0 ≤ v.2.1 k ∧ v.2.1 k ≤ 20) ∧ 0 ≤ v.2.2 k ∧ v.2.2 k ≤ 40
def okS (σ : Sg) : Prop := (0 ≤ gN σ ∧ gN σ ≤ 200) ∧ (∀ k : Int, 0 ≤ k → k < gN σ → 32 ≤ gX σ k ∧ gX σ k ≤ 126) ∧ okR (gR σ) ∧ (okK (gR σ) (gK σ) ∧ kM (gK σ) ≤ 999) ∧ okP (gR σ) 8 (gU σ) ∧ okP (gR σ) 2 (gE σ) ∧ okV (gV σ)
/-- a shelf at place s of m carpets -/
def ShS (w : Wd) (s m : Nat) : Prop := sh w s = some (.inr 4) ∧ sh w (s + 1) = some (.inl (2, m)) ∧ wR w s 0 = vR (s + 1) ∧ ∀ i : Nat, i < m → wR w (s + 1) i = vR (s + 2 + 3 * i) ∧ CarS w (s + 2 + 3 * i)
def ShC (w : Wd) (s m : Nat) (ρ : Rm) (p : Int × (Int → Kp)) : Prop := ShS w s m ∧ (0 ≤ wI w s 1 ∧ wI w s 1 < m) ∧ wI w s 2 = p.1 ∧ ∀ (j : Int) (i : Nat), 0 ≤ j → j < p.1 → i < m → ((i : Int) = wI w s 1 - p.1 + j ∨ (i : Int) = wI w s 1 - p.1 + j + m) → CarC w (s + 2 + 3 * i) ρ (p.2 j)
def pushP (m : Int) (p : Int × (Int → Kp)) (κ : Kp) : Int × (Int → Kp) := if p.1 < m then (p.1 + 1, fun j => if j = p.1 then κ else p.2 j) else (p.1, fun j => if j = m - 1 then κ else p.2 (j + 1))
def popP (p : Int × (Int → Kp)) : Int × (Int → Kp) := (p.1 - 1, p.2)
/-- a shelf's cells -/
def PcS (s m : Nat) : Nat → Prop := fun a => s ≤ a ∧ a < s + 2 + 3 * m
section
variable {Γ : Gm} {w : Wd}
theorem ShS.fr {P : Nat → Prop} {w u : Wd} {s m : Nat} (h : ShS w s m) (g : Fr P w u) : ShS u s m := by
  obtain ⟨h0, h1, h2, h3⟩ := h
  exact ⟨by rw [g.sh]; exact h0, by rw [g.sh]; exact h1, by rw [g.2.2]; exact h2, fun i hi => ⟨by rw [g.2.2]; exact (h3 i hi).1, (h3 i hi).2.fr g⟩⟩
theorem ShC.fr {P : Nat → Prop} {w u : Wd} {s m : Nat} {ρ : Rm} {p : Int × (Int → Kp)} (h : ShC w s m ρ p) (g : Fr P w u) (hp : ∀ a, s ≤ a → a < s + 2 + 3 * m → ¬ P a) (hm : 0 < m) : ShC u s m ρ p := by
  obtain ⟨h0, h1, h2, h3⟩ := h
  have q := g.2.1 s (hp s (by omega) (by omega))
  refine ⟨h0.fr g, by rw [q]; exact h1, by rw [q]; exact h2, fun j i a b c d => ?_⟩
  rw [q] at d
  exact (h3 j i a b c d).fr g (fun x x1 x2 => hp x (by omega) (by omega))
theorem sp_rowAt {s m : Nat} {i : Int} (h : ShS w s m) (hm : m < 1000) (hi : 0 ≤ i ∧ i < m) : SpR Γ m_X4_rowAt [vR s, vI i] w (fun z u => z = s + 2 + 3 * i.toNat ∧ u = w) := by
  obtain ⟨h0, h1, h2, h3⟩ := h
  have h4 := (h3 i.toNat (by omega)).1
  rw [show ((i.toNat : Nat) : Int) = i by omega] at h4
  exact i_X4_rowAt (k_X4_rowAt_0 (fun q => absurd q (by omega)) (fun _ => k_X4_rowAt_4 (q1 := s + 1) (n2 := m) (fun q => absurd q (by omega)) (fun _ => k_X4_rowAt_13 (q1 := s + 1) (n2 := m) (q3 := s + 2 + 3 * i.toNat) ⟨_, rfl, rfl, rfl⟩)))
theorem sp_isFull {s m : Nat} {ρ : Rm} {p : Int × (Int → Kp)} (h : ShC w s m ρ p) (hm : m < 1000) (hp : 0 ≤ p.1 ∧ p.1 ≤ m) : SpP Γ m_X4_isFull [vR s] w (if p.1 < m then 0 else 1) := by
  obtain ⟨⟨h0, h1, h2, h3⟩, h4, h5, h6⟩ := h
  exact i_X4_isFull (k_X4_isFull_0 (q1 := s + 1) (n2 := m) (fun q => k_X4_isFull_16 (rp (by rw [if_pos (by omega)]))) (fun q => k_X4_isFull_12 (rp (by rw [if_neg (by omega)]))))
theorem sp_push {s m c : Nat} {ρ : Rm} {κ : Kp} {p : Int × (Int → Kp)} (h : ShC w s m ρ p) (hC : CarC w c ρ κ) (okr : okR ρ) (ok : okK ρ κ) (hm : 0 < m ∧ m < 1000) (hp : 0 ≤ p.1 ∧ p.1 ≤ m) (hc : c + 2 < s ∨ s + 2 + 3 * m ≤ c) : SpV Γ m_X4_push [vR s, vR c] w (fun u => ShC u s m ρ (pushP m p κ) ∧ Fr (PcS s m) w u) := by
  obtain ⟨hS, h4, h5, h6⟩ := id h
  obtain ⟨h0, h1, h2, h3⟩ := id hS
  refine i_X4_push (k_X4_push_0 (sp_rowAt hS hm.2 (by omega)) (fun z u hu => ?_))
  obtain ⟨rfl, rfl⟩ := hu
  have hx : ((wI u s 1).toNat : Int) = wI u s 1 := by omega
  generalize hxe : (wI u s 1).toNat = x at hx ⊢
  have hrow := (h3 x (by omega)).2
  have hrow0 := hrow.1
  refine k_X4_push_8 (sp_copyFrom hrow hC okr ok (by omega)) (fun v hv => ?_)
  obtain ⟨hCv, hF⟩ := hv
  have hFs : Fr (PcS s m) u v := hF.mono (fun a ha => by unfold Pc3 at ha; exact ⟨by omega, by omega⟩)
  have hSv := hS.fr hF
  obtain ⟨g0, g1, g2, g3⟩ := id hSv
  have q1 : wI v s 1 = x := by rw [hF.2.1 s (fun q => by unfold Pc3 at q; omega)]; omega
  have q2 : wI v s 2 = p.1 := by rw [hF.2.1 s (fun q => by unfold Pc3 at q; omega)]; exact h5
  -- the two ends are one
  have fin : ∀ y : Int, (y = x + 1 ∨ y = x + 1 - m) → 0 ≤ y → y < m → ShC (stI (stI v s 1 y) s 2 (min (p.1 + 1) m)) s m ρ (pushP m p κ) ∧ Fr (PcS s m) u (stI (stI v s 1 y) s 2 (min (p.1 + 1) m)) := by
    intro y hy hy0 hym
    have hFF : Fr (PcS s m) v (stI (stI v s 1 y) s 2 (min (p.1 + 1) m)) := (Fr.st (P := PcS s m) ⟨by omega, by omega⟩).trans (Fr.st (P := PcS s m) ⟨by omega, by omega⟩)
    have hFn : Fr (fun a => a = s) v (stI (stI v s 1 y) s 2 (min (p.1 + 1) m)) := (Fr.st (P := fun a => a = s) rfl).trans (Fr.st (P := fun a => a = s) rfl)
    refine ⟨⟨hSv.fr hFF, by rw [wI_skip (by decide), wI_hit]; exact ⟨hy0, hym⟩, ?_, fun j i a b c d => ?_⟩, hFs.trans hFF⟩
    · rw [wI_hit]
      unfold pushP
      split
      · show _ = p.1 + 1; omega
      · show _ = p.1; omega
    · rw [wI_skip (by decide), wI_hit] at d
      refine CarC.fr (w := v) ?_ hFn (fun a1 a2 a3 a4 => by omega)
      by_cases e : i = x
      · subst e
        have hk : (pushP m p κ).2 j = κ := by
          unfold pushP at b d ⊢
          split at b
          · rename_i hlt
            rw [if_pos hlt] at d ⊢
            have b' : j < p.1 + 1 := b
            have d' : (i : Int) = y - (p.1 + 1) + j ∨ (i : Int) = y - (p.1 + 1) + j + m := d
            show (if j = p.1 then κ else p.2 j) = κ
            rw [if_pos (by omega)]
          · rename_i hlt
            rw [if_neg hlt] at d ⊢
            have b' : j < p.1 := b
            have d' : (i : Int) = y - p.1 + j ∨ (i : Int) = y - p.1 + j + m := d
            show (if j = (m : Int) - 1 then κ else p.2 (j + 1)) = κ
            rw [if_pos (by omega)]
        rw [hk]
        exact hCv
      · refine CarC.fr (w := u) ?_ hF (fun a1 a2 a3 a4 => by unfold Pc3 at a4; omega)
        unfold pushP at b d ⊢
        split at b
        · rename_i hlt
          rw [if_pos hlt] at d ⊢
          have b' : j < p.1 + 1 := b
          have d' : (i : Int) = y - (p.1 + 1) + j ∨ (i : Int) = y - (p.1 + 1) + j + m := d
          show CarC u (s + 2 + 3 * i) ρ (if j = p.1 then κ else p.2 j)
          rw [if_neg (by omega)]
          exact h6 j i a (by omega) c (by omega)
        · rename_i hlt
          rw [if_neg hlt] at d ⊢
          have b' : j < p.1 := b
          have d' : (i : Int) = y - p.1 + j ∨ (i : Int) = y - p.1 + j + m := d
          show CarC u (s + 2 + 3 * i) ρ (if j = (m : Int) - 1 then κ else p.2 (j + 1))
          rw [if_neg (by omega)]
          exact h6 (j + 1) i (by omega) (by omega) c (by omega)
  refine k_X4_push_19 (q1 := s + 1) (n2 := m) (fun q => ?_) (fun q => ?_)
  · refine k_X4_push_43 (q1 := s + 1) (n2 := m) ⟨rfl, ?_⟩
    rw [q2]
    exact fin 0 (by omega) (by omega) (by omega)
  · refine k_X4_push_34 (q1 := s + 1) (n2 := m) ⟨rfl, ?_⟩
    rw [q1, q2]
    exact fin (x + 1) (by omega) (by omega) (by omega)
theorem sp_pop0 {s m c : Nat} {ρ : Rm} {p : Int × (Int → Kp)} (h : ShC w s m ρ p) (hm : 0 < m ∧ m < 1000) (hp : p.1 = 0) : SpI Γ m_X4_pop [vR s, vR c] w (fun z u => z = 0 ∧ u = w) := by
  obtain ⟨hS, h4, h5, h6⟩ := id h
  obtain ⟨h0, h1, h2, h3⟩ := id hS
  refine i_X4_pop (k_X4_pop_0 (fun q => k_X4_pop_16 (q1 := s + 1) (n2 := m) (sp_rowAt hS hm.2 (by omega)) (fun z u hu => ?_)) (fun q => k_X4_pop_7 (sp_rowAt hS hm.2 (by omega)) (fun z u hu => ?_))) <;>
  · obtain ⟨rfl, rfl⟩ := hu
    exact k_X4_pop_29 (fun q => absurd q (by omega)) (fun _ => k_X4_pop_41 (rp rfl))
theorem sp_pop {s m c : Nat} {ρ : Rm} {p : Int × (Int → Kp)} (h : ShC w s m ρ p) (hS0 : CarS w c) (okr : okR ρ) (ok : ∀ j : Int, 0 ≤ j → j < p.1 → okK ρ (p.2 j)) (hm : 0 < m ∧ m < 1000) (hp : 0 < p.1 ∧ p.1 ≤ m) (hc : c + 2 < s ∨ s + 2 + 3 * m ≤ c) : SpI Γ m_X4_pop [vR s, vR c] w (fun z u => z = 1 ∧ ShC u s m ρ (popP p) ∧ CarC u c ρ (p.2 (p.1 - 1)) ∧ Fr (fun a => a = s ∨ Pc3 c a) w u) := by
  obtain ⟨hS, h4, h5, h6⟩ := id h
  obtain ⟨h0, h1, h2, h3⟩ := id hS
  have s0 := hS0.1
  have ok1 := ok (p.1 - 1) (by omega) (by omega)
  -- behind the row's choice
  have key : ∀ y : Nat, ((y : Int) = wI w s 1 - 1 ∨ (y : Int) = wI w s 1 - 1 + m) → y < m → G Γ m_X4_pop (fun v u => ∃ z, v = some (vI z) ∧ (z = 1 ∧ ShC u s m ρ (popP p) ∧ CarC u c ρ (p.2 (p.1 - 1)) ∧ Fr (fun a => a = s ∨ Pc3 c a) w u)) 0 0 29 [some (vR s), some (vR c), some (vI y), none] [vR (s + 2 + 3 * y)] w := by
    intro y hy hym
    have hCy := h6 (p.1 - 1) y (by omega) (by omega) hym (by omega)
    refine k_X4_pop_29 (fun _ => ?_) (fun q => absurd q (by omega))
    refine k_X4_pop_43 (sp_copyFrom hS0 hCy okr ok1 (by omega)) (fun u hu => ?_)
    obtain ⟨hCu, hF⟩ := hu
    have g0 := hF.sh s
    rw [h0] at g0
    have q2 : wI u s 2 = p.1 := by rw [hF.2.1 s (fun q => by unfold Pc3 at q; omega)]; exact h5
    have hFn : Fr (fun a => a = s) u (stI (stI u s 1 y) s 2 (wI u s 2 - 1)) := (Fr.st (P := fun a => a = s) rfl).trans (Fr.st (P := fun a => a = s) rfl)
    refine k_X4_pop_48 ⟨_, rfl, rfl, ⟨(hS.fr hF).fr hFn, ?_, ?_, fun j i a b cc d => ?_⟩, hCu.fr hFn (fun a1 a2 a3 a4 => by omega), (hF.mono (fun a ha => Or.inr ha)).trans (hFn.mono (fun a ha => Or.inl ha))⟩
    · rw [wI_skip (by decide), wI_hit]; omega
    · rw [wI_hit, q2]; rfl
    · rw [wI_skip (by decide), wI_hit] at d
      have b' : j < p.1 - 1 := b
      have d' : (i : Int) = y - (p.1 - 1) + j ∨ (i : Int) = y - (p.1 - 1) + j + m := d
      refine CarC.fr (w := u) ?_ hFn (fun a1 a2 a3 a4 => by omega)
      refine CarC.fr (w := w) ?_ hF (fun a1 a2 a3 a4 => by unfold Pc3 at a4; omega)
      exact h6 j i a (by omega) cc (by omega)
  refine i_X4_pop (k_X4_pop_0 (fun q => k_X4_pop_16 (q1 := s + 1) (n2 := m) (sp_rowAt hS hm.2 (by omega)) (fun z u hu => ?_)) (fun q => k_X4_pop_7 (sp_rowAt hS hm.2 (by omega)) (fun z u hu => ?_)))
  · obtain ⟨rfl, rfl⟩ := hu
    have := key ((m : Int) - 1).toNat (by omega) (by omega)
    rw [show ((((m : Int) - 1).toNat : Nat) : Int) = (m : Int) - 1 by omega] at this
    exact this
  · obtain ⟨rfl, rfl⟩ := hu
    have := key (wI u s 1 - 1).toNat (by omega) (by omega)
    rw [show (((wI u s 1 - 1).toNat : Nat) : Int) = wI u s 1 - 1 by omega] at this
    exact this
theorem sp_shClear {s m : Nat} {ρ : Rm} (h : ShS w s m) (hm : 0 < m) (U : Int → Kp) : SpV Γ m_X4_clear [vR s] w (fun u => ShC u s m ρ (0, U) ∧ Fr (fun a => a = s) w u) := by
  have h0 := h.1
  have hF : Fr (fun a => a = s) w (stI (stI w s 1 0) s 2 0) := (Fr.st (P := fun a => a = s) rfl).trans (Fr.st (P := fun a => a = s) rfl)
  refine i_X4_clear (k_X4_clear_0 ⟨rfl, ⟨h.fr hF, by rw [wI_skip (by decide), wI_hit]; omega, by rw [wI_hit], fun j i a b => ?_⟩, hF⟩)
  have b' : j < 0 := b
  omega
end
