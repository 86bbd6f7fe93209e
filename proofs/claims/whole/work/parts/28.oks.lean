section
theorem okP_push {ρ : Rm} {m : Int} {p : Int × (Int → Kp)} {κ : Kp} (hm : 0 < m) (h : okP ρ m p) (ok : okK ρ κ ∧ kM κ ≤ 999) : okP ρ m (pushP m p κ) := by
  obtain ⟨h1, h2⟩ := h
  unfold pushP
  split
  · refine ⟨⟨by show 0 ≤ p.1 + 1; omega, by show p.1 + 1 ≤ m; omega⟩, fun j j0 j1 => ?_⟩
    have j1' : j < p.1 + 1 := j1
    show okK ρ (if j = p.1 then κ else p.2 j) ∧ kM (if j = p.1 then κ else p.2 j) ≤ 999
    by_cases e : j = p.1
    · rw [if_pos e]; exact ok
    · rw [if_neg e]; exact h2 j j0 (by omega)
  · refine ⟨h1, fun j j0 j1 => ?_⟩
    have j1' : j < p.1 := j1
    show okK ρ (if j = m - 1 then κ else p.2 (j + 1)) ∧ kM (if j = m - 1 then κ else p.2 (j + 1)) ≤ 999
    by_cases e : j = m - 1
    · rw [if_pos e]; exact ok
    · rw [if_neg e]; exact h2 (j + 1) (by omega) (by omega)
theorem okP_pop {ρ : Rm} {m : Int} {p : Int × (Int → Kp)} (h : okP ρ m p) (hp : p.1 ≠ 0) : okP ρ m (popP p) := by
  obtain ⟨h1, h2⟩ := h
  refine ⟨⟨by show 0 ≤ p.1 - 1; omega, by show p.1 - 1 ≤ m; omega⟩, fun j j0 j1 => ?_⟩
  have j1' : j < p.1 - 1 := j1
  exact h2 j j0 (by omega)
theorem okP_0 {ρ : Rm} {m : Int} (hm : 0 ≤ m) (f : Int → Kp) : okP ρ m (0, f) := ⟨⟨Int.le_refl 0, hm⟩, fun j j0 j1 => by have j1' : j < 0 := j1; omega⟩
theorem okV_0 (f : (Int → Int) × (Int → Int)) : okV (0, f) := ⟨⟨Int.le_refl 0, by show (0 : Int) ≤ 6; decide⟩, fun j j0 j1 => by have j1' : j < 0 := j1; omega⟩
theorem ok_note {σ : Sg} {κ : Kp} (ok : okS σ) (h : okK (gR σ) κ ∧ kM κ ≤ 999) : okS (noteS σ κ) := by
  obtain ⟨a1, a2, a3, a4, a5, a6, a7⟩ := ok
  exact ⟨a1, a2, a3, h, okP_push (by decide) a5 a4, a6, a7⟩
theorem ok_write {σ : Sg} {a : Int} (ok : okS σ) : okS (fWrite σ a).2 := by
  unfold fWrite
  split
  · rename_i h1
    split
    · rename_i h2
      obtain ⟨a1, a2, a3, a4, a5, a6, a7⟩ := ok
      refine ⟨⟨by show 0 ≤ gN σ + 1; omega, by show gN σ + 1 ≤ 200; omega⟩, fun k k0 k1 => ?_, a3, a4, a5, a6, a7⟩
      have k1' : k < gN σ + 1 := k1
      show 32 ≤ (if k = gN σ then a else gX σ k) ∧ (if k = gN σ then a else gX σ k) ≤ 126
      by_cases e : k = gN σ
      · rw [if_pos e]; exact h1
      · rw [if_neg e]; exact a2 k k0 (by omega)
    · exact ok
  · exact ok
theorem ok_wipe {σ : Sg} (ok : okS σ) : okS (fWipe σ).2 := by
  obtain ⟨a1, a2, a3, a4, a5, a6, a7⟩ := ok
  refine ⟨⟨Int.le_refl 0, by show (0 : Int) ≤ 200; decide⟩, fun k k0 k1 => ?_, a3, a4, a5, a6, a7⟩
  have k1' : k < 0 := k1
  omega
theorem kick_m {ρ : Rm} {κ : Kp} {i f : Int} : kM (kick ρ κ i f) = kM κ := by
  unfold kick
  split <;> rfl
theorem ok_cut {σ : Sg} {b : Int} (ok : okS σ) : okS (fCut σ b).2 := by
  unfold fCut
  split
  · rename_i h1
    split
    · rename_i h2
      exact ok_note ok ⟨cut_ok ok.k h1.1 h2, ok.2.2.2.1.2⟩
    · exact ok
  · exact ok
theorem ok_hook {σ : Sg} {i f : Int} (ok : okS σ) : okS (fHook σ i f).2 := by
  unfold fHook
  split
  · rename_i h1
    split
    · exact ok_note ok ⟨kick_ok ok.r ok.k (by omega) h1.2, by rw [kick_m]; exact ok.2.2.2.1.2⟩
    · exact ok
  · exact ok
theorem ok_letGo {σ : Sg} {i : Int} (ok : okS σ) : okS (fLetGo σ i).2 := by
  unfold fLetGo
  split
  · split
    · exact ok
    · exact ok_note ok ⟨go_ok ok.k (by omega), ok.2.2.2.1.2⟩
  · exact ok
theorem ok_pass {σ : Sg} {n : Int} (ok : okS σ) : okS (fPass σ n).2 := by
  unfold fPass
  split
  · split
    · rename_i h1 h2
      have h3 := ok.k.2.2.2.2.2.2
      have q := monN_ok ok.r ok.k n.toNat (by omega)
      exact ok_note ok ⟨q.1, by rw [q.2]; omega⟩
    · exact ok
  · exact ok
theorem ok_undo {σ : Sg} (ok : okS σ) : okS (fUndo σ).2 := by
  unfold fUndo
  split
  · exact ok
  · rename_i h1
    obtain ⟨a1, a2, a3, a4, a5, a6, a7⟩ := ok
    have h2 := a5.1
    exact ⟨a1, a2, a3, a5.2 ((gU σ).1 - 1) (by omega) (by omega), okP_pop a5 h1, a6, a7⟩
theorem ok_keep {σ : Sg} (ok : okS σ) : okS (fKeep σ).2 := by
  unfold fKeep
  split
  · obtain ⟨a1, a2, a3, a4, a5, a6, a7⟩ := ok
    exact ⟨a1, a2, a3, a4, a5, okP_push (by decide) a6 a4, a7⟩
  · exact ok
theorem ok_back {σ : Sg} (ok : okS σ) : okS (fBack σ).2 := by
  unfold fBack
  split
  · exact ok
  · rename_i h1
    obtain ⟨a1, a2, a3, a4, a5, a6, a7⟩ := ok
    have h2 := a6.1
    exact ⟨a1, a2, a3, a6.2 ((gE σ).1 - 1) (by omega) (by omega), okP_0 (by decide) _, okP_pop a6 h1, a7⟩
theorem ok_seen {σ : Sg} {f v : Int} (ok : okS σ) : okS (fSeen σ f v).2 := by
  unfold fSeen
  split
  · rename_i h1
    split
    · rename_i h2
      obtain ⟨a1, a2, a3, a4, a5, a6, a7⟩ := ok
      have h3 := a7.1
      refine ⟨a1, a2, a3, a4, a5, a6, ⟨by show 0 ≤ (gV σ).1 + 1; omega, by show (gV σ).1 + 1 ≤ 6; omega⟩, fun k k0 k1 => ?_⟩
      have k1' : k < (gV σ).1 + 1 := k1
      show (0 ≤ (if k = (gV σ).1 then f else (gV σ).2.1 k) ∧ (if k = (gV σ).1 then f else (gV σ).2.1 k) ≤ 20) ∧ 0 ≤ (if k = (gV σ).1 then v else (gV σ).2.2 k) ∧ (if k = (gV σ).1 then v else (gV σ).2.2 k) ≤ 40
      by_cases e : k = (gV σ).1
      · rw [if_pos e, if_pos e]; exact h1
      · rw [if_neg e, if_neg e]; exact a7.2 k k0 (by omega)
    · exact ok
  · exact ok
theorem ok_forget {σ : Sg} (ok : okS σ) : okS (fForget σ).2 := by
  obtain ⟨a1, a2, a3, a4, a5, a6, a7⟩ := ok
  exact ⟨a1, a2, a3, a4, a5, a6, okV_0 _⟩
/-- a new room -/
def newS (σ : Sg) (ρ : Rm) : Sg := (σ.1, ρ, nilK, (0, (gU σ).2), (0, (gE σ).2), (0, (gV σ).2))
theorem ok_new {σ : Sg} {ρ : Rm} (ok : okS σ) (okr : okR ρ) : okS (newS σ ρ) := by
  obtain ⟨a1, a2, a3, a4, a5, a6, a7⟩ := ok
  exact ⟨a1, a2, okr, ⟨nil_ok okr, by show (0 : Int) ≤ 999; decide⟩, okP_0 (by decide) _, okP_0 (by decide) _, okV_0 _⟩
end
