abbrev Tx : Type := Int × (Int → Int)
def ltF (t : Tx) (p : Int) : Int := if t.1 ≤ p then 0 else t.2 p
def fgF (t : Tx) (p : Int) : Int := if 48 ≤ ltF t p ∧ ltF t p ≤ 57 then (if 48 ≤ ltF t (p + 1) ∧ ltF t (p + 1) ≤ 57 then 2 else 1) else 0
def nmF (t : Tx) (p : Int) : Int := if fgF t p = 2 then (ltF t p - 48) * 10 + ltF t (p + 1) - 48 else ltF t p - 48
/-- a number that stands at p with such a letter behind it -/
abbrev nuP (t : Tx) (p e : Int) : Prop := fgF t p ≠ 0 ∧ ltF t (p + fgF t p) = e
/-- .. and from a to b -/
abbrev nuR (t : Tx) (p e a b : Int) : Prop := nuP t p e ∧ a ≤ nmF t p ∧ nmF t p ≤ b
def nxF (t : Tx) (p : Int) : Int := p + fgF t p + 1
def okX (t : Tx) : Prop := (0 ≤ t.1 ∧ t.1 ≤ 200) ∧ ∀ k : Int, 0 ≤ k → k < t.1 → 32 ≤ t.2 k ∧ t.2 k ≤ 126
theorem lt_r {t : Tx} {p : Int} (h : okX t) (hp : 0 ≤ p) : 0 ≤ ltF t p ∧ ltF t p ≤ 126 := by
  unfold ltF
  split
  · omega
  · have := h.2 p hp (by omega)
    omega
theorem fg_r (t : Tx) (p : Int) : fgF t p = 0 ∨ fgF t p = 1 ∨ fgF t p = 2 := by
  unfold fgF
  split
  · split
    · exact Or.inr (Or.inr rfl)
    · exact Or.inr (Or.inl rfl)
  · exact Or.inl rfl
theorem nmT_r {t : Tx} {p : Int} (h : okX t) (hp : 0 ≤ p) (hf : fgF t p ≠ 0) : 0 ≤ nmF t p ∧ nmF t p ≤ 99 := by
  have l1 := lt_r h hp
  have l2 := lt_r h (p := p + 1) (by omega)
  unfold nmF
  unfold fgF at hf ⊢
  split at hf
  · rename_i h1
    rw [if_pos h1]
    by_cases h2 : 48 ≤ ltF t (p + 1) ∧ ltF t (p + 1) ≤ 57
    · rw [if_pos h2, if_pos rfl]; omega
    · rw [if_neg h2, if_neg (by decide)]; omega
  · exact absurd rfl hf
section
variable {Γ : Gm} {w : Wd} {x m : Nat}
/-- the text as the class holds it, at place x -/
def TxS (w : Wd) (x m : Nat) (t : Tx) : Prop := sh w x = some (.inl (1, m)) ∧ (t.1 ≤ m ∧ m ≤ 200) ∧ ∀ k : Int, 0 ≤ k → k < t.1 → wI w x k = t.2 k
theorem TxS.fr {P : Nat → Prop} {w u : Wd} {t : Tx} (h : TxS w x m t) (g : Fr P w u) (hp : ¬ P x) : TxS u x m t := ⟨by rw [g.sh]; exact h.1, h.2.1, fun k a b => by rw [g.2.1 x hp]; exact h.2.2 k a b⟩
theorem sp_letterAt {t : Tx} {p : Int} (h : TxS w x m t) (ok : okX t) (hp : 0 ≤ p) (hq : sm p) : SpP Γ m_X3_letterAt [vR x, vI t.1, vI p] w (ltF t p) := by
  have h0 := ok.1
  have s1 := h.1
  have hm := h.2.1
  refine i_X3_letterAt (k_X3_letterAt_0 (fun q => absurd q (by omega)) (fun _ => k_X3_letterAt_4 (fun q => k_X3_letterAt_21 (rp (if_pos q).symm)) (fun q => k_X3_letterAt_9 (n1 := m) (fun q2 => absurd q2 (by omega)) (fun _ => k_X3_letterAt_15 (n1 := m) ⟨_, rfl, ?_, rfl⟩))))
  rw [h.2.2 p hp (by omega)]
  exact (if_neg q).symm
theorem sp_figure {c : Int} (hc : 0 ≤ c ∧ c ≤ 126) : SpP Γ m_X3_isFigure [vI c] w (if 48 ≤ c ∧ c ≤ 57 then 1 else 0) := by
  by_cases h : 48 ≤ c ∧ c ≤ 57
  · rw [if_pos h]
    exact i_X3_isFigure (k_X3_isFigure_0 (sp_within1 h (by omega) (by omega) (by omega)) (rp rfl))
  · rw [if_neg h]
    exact i_X3_isFigure (k_X3_isFigure_0 (sp_within0 h (by omega) (by omega) (by omega)) (rp rfl))
theorem sp_figuresAt {t : Tx} {p : Int} (h : TxS w x m t) (ok : okX t) (hp : 0 ≤ p ∧ p < 1000) : SpP Γ m_X3_figuresAt [vR x, vI t.1, vI p] w (fgF t p) := by
  have l1 := lt_r ok hp.1
  have l2 := lt_r ok (p := p + 1) (by omega)
  unfold fgF
  by_cases h1 : 48 ≤ ltF t p ∧ ltF t p ≤ 57
  · rw [if_pos h1]
    have f1 := sp_figure (Γ := Γ) (w := w) l1
    rw [if_pos h1] at f1
    refine i_X3_figuresAt (k_X3_figuresAt_0 (sp_letterAt h ok hp.1 (by omega)) f1 (fun _ => ?_) (fun q => absurd q (by decide)))
    by_cases h2 : 48 ≤ ltF t (p + 1) ∧ ltF t (p + 1) ≤ 57
    · rw [if_pos h2]
      have f2 := sp_figure (Γ := Γ) (w := w) l2
      rw [if_pos h2] at f2
      exact k_X3_figuresAt_14 (sp_letterAt h ok (by omega) (by omega)) f2 (fun q => absurd q (by decide)) (fun _ => k_X3_figuresAt_28 (rp rfl))
    · rw [if_neg h2]
      have f2 := sp_figure (Γ := Γ) (w := w) l2
      rw [if_neg h2] at f2
      exact k_X3_figuresAt_14 (sp_letterAt h ok (by omega) (by omega)) f2 (fun _ => k_X3_figuresAt_32 (rp rfl)) (fun q => absurd rfl q)
  · rw [if_neg h1]
    have f1 := sp_figure (Γ := Γ) (w := w) l1
    rw [if_neg h1] at f1
    exact i_X3_figuresAt (k_X3_figuresAt_0 (sp_letterAt h ok hp.1 (by omega)) f1 (fun q => absurd rfl q) (fun _ => k_X3_figuresAt_12 (rp rfl)))
theorem sp_numberAt {t : Tx} {p : Int} (h : TxS w x m t) (ok : okX t) (hp : 0 ≤ p ∧ p < 1000) (hf : fgF t p ≠ 0) : SpP Γ m_X3_numberAt [vR x, vI t.1, vI p, vI (fgF t p)] w (nmF t p) := by
  have l1 := lt_r ok hp.1
  have l2 := lt_r ok (p := p + 1) (by omega)
  have hfg := fg_r t p
  have c1 := sp_letterAt (Γ := Γ) h ok (p := p + 0) (by omega) (by omega)
  have c2 := sp_letterAt (Γ := Γ) h ok (p := p + (0 + 1)) (by omega) (by omega)
  refine i_X3_numberAt (k_X3_numberAt_0 (k_X3_numberAt_6 (fun q => absurd q (by omega)) (fun _ => k_X3_numberAt_12 c1 ?_)))
  rw [Int.add_zero]
  refine k_X3_numberAt_6 (fun q => k_X3_numberAt_38 ⟨_, rfl, ?_, rfl⟩) (fun q => k_X3_numberAt_12 c2 (k_X3_numberAt_6 (fun _ => k_X3_numberAt_38 ⟨_, rfl, ?_, rfl⟩) (fun q2 => absurd q2 (by omega))))
  · unfold nmF
    rw [if_neg (by omega)]
    omega
  · unfold nmF
    rw [if_pos (by omega), show (0 : Int) + 1 = 1 by rfl]
    omega
end
