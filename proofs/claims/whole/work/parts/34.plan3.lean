/-- what a row of breadths costs from strip s on -/
def cuL (ρ : Rm) : Int → List Int → Int
  | _, [] => 0
  | s, b :: l => lenF ρ s b + cuL ρ (s + b) l
def smL (ρ : Rm) : Int → List Int → Int
  | _, [] => 0
  | s, b :: l => seR ρ s + smL ρ (s + b) l
/-- it covers all from s on -/
def okL (ρ : Rm) (m : Int) : Int → List Int → Prop
  | s, [] => s = m
  | s, b :: l => (1 ≤ b ∧ b ≤ rS ρ 2 ∧ s + b ≤ m) ∧ okL ρ m (s + b) l
def leL : List Int → List Int → Prop
  | [], _ => True
  | _ :: _, [] => False
  | a :: l, b :: k => a < b ∨ (a = b ∧ leL l k)
abbrev Tr : Type := Int × Int × List Int
def le3 (a b : Tr) : Prop := a.1 < b.1 ∨ (a.1 = b.1 ∧ (a.2.1 < b.2.1 ∨ (a.2.1 = b.2.1 ∧ leL a.2.2 b.2.2)))
def trL (ρ : Rm) (s : Int) (l : List Int) : Tr := (cuL ρ s l, smL ρ s l, l)
theorem cz_congr {ρ : Rm} {T U : Tb} {m s : Int} (h : ∀ x : Int, s < x → x ≤ m → T.1 x = U.1 x ∧ T.2.1 x = U.2.1 x) : ∀ b : Nat, s + b ≤ m → czF ρ T s b = czF ρ U s b
  | 0, _ => rfl
  | b + 1, hb => by
    have q := cz_congr (ρ := ρ) h b (by omega)
    have r := h (s + ((b : Int) + 1)) (by omega) (by omega)
    unfold czF
    rw [q, r.1, r.2]
theorem tb_fix {ρ : Rm} {m : Int} (okr : okR ρ) (hm : m = rS ρ 0) : ∀ D : Nat, (D : Int) ≤ m → (tbF ρ m D).1 m = 0 ∧ (tbF ρ m D).2.1 m = 0 ∧ ∀ s : Int, m - D ≤ s → s < m → czF ρ (tbF ρ m D) s (moF ρ (m - s)) = ((tbF ρ m D).1 s, (tbF ρ m D).2.1 s, (tbF ρ m D).2.2 s)
  | 0, _ => ⟨rfl, rfl, fun s h1 h2 => absurd h2 (by omega)⟩
  | D + 1, hD => by
    have q := tb_fix okr hm D (by omega)
    have o2 := okr.2.2.1
    have hmo : ∀ s : Int, s < m → s + (moF ρ (m - s) : Nat) ≤ m := fun s hs => by unfold moF; omega
    have n1 : ∀ x : Int, x ≠ m - ((D : Int) + 1) → (tbF ρ m (D + 1)).1 x = (tbF ρ m D).1 x ∧ (tbF ρ m (D + 1)).2.1 x = (tbF ρ m D).2.1 x ∧ (tbF ρ m (D + 1)).2.2 x = (tbF ρ m D).2.2 x := fun x hx => ⟨if_neg hx, if_neg hx, if_neg hx⟩
    refine ⟨(n1 m (by omega)).1.trans q.1, (n1 m (by omega)).2.1.trans q.2.1, fun s h1 h2 => ?_⟩
    by_cases e : s = m - ((D : Int) + 1)
    · have c := cz_congr (ρ := ρ) (T := tbF ρ m (D + 1)) (U := tbF ρ m D) (m := m) (s := s) (fun x x1 x2 => ⟨(n1 x (by omega)).1, (n1 x (by omega)).2.1⟩) (moF ρ (m - s)) (hmo s h2)
      rw [c, e, show m - (m - ((D : Int) + 1)) = (D : Int) + 1 by omega]
      have z1 : (tbF ρ m (D + 1)).1 (m - ((D : Int) + 1)) = (czF ρ (tbF ρ m D) (m - ((D : Int) + 1)) (moF ρ ((D : Int) + 1))).1 := if_pos rfl
      have z2 : (tbF ρ m (D + 1)).2.1 (m - ((D : Int) + 1)) = (czF ρ (tbF ρ m D) (m - ((D : Int) + 1)) (moF ρ ((D : Int) + 1))).2.1 := if_pos rfl
      have z3 : (tbF ρ m (D + 1)).2.2 (m - ((D : Int) + 1)) = (czF ρ (tbF ρ m D) (m - ((D : Int) + 1)) (moF ρ ((D : Int) + 1))).2.2 := if_pos rfl
      rw [z1, z2, z3]
    · have c := cz_congr (ρ := ρ) (T := tbF ρ m (D + 1)) (U := tbF ρ m D) (m := m) (s := s) (fun x x1 x2 => ⟨(n1 x (by omega)).1, (n1 x (by omega)).2.1⟩) (moF ρ (m - s)) (hmo s h2)
      rw [c, (n1 s e).1, (n1 s e).2.1, (n1 s e).2.2]
      exact q.2.2 s (by omega) h2
/-- the breadth that is taken is the best, and the least of the best -/
theorem cz_min {ρ : Rm} {T : Tb} {s : Int} : ∀ n : Nat, 1 ≤ n → ((1 ≤ (czF ρ T s n).2.2 ∧ (czF ρ T s n).2.2 ≤ n) ∧ (czF ρ T s n).1 = lenF ρ s (czF ρ T s n).2.2 + T.1 (s + (czF ρ T s n).2.2) ∧ (czF ρ T s n).2.1 = seR ρ s + T.2.1 (s + (czF ρ T s n).2.2)) ∧ ∀ b : Int, 1 ≤ b → b ≤ n → (czF ρ T s n).1 < lenF ρ s b + T.1 (s + b) ∨ ((czF ρ T s n).1 = lenF ρ s b + T.1 (s + b) ∧ ((czF ρ T s n).2.1 < seR ρ s + T.2.1 (s + b) ∨ ((czF ρ T s n).2.1 = seR ρ s + T.2.1 (s + b) ∧ (czF ρ T s n).2.2 ≤ b)))
  | 0, h => absurd h (by decide)
  | n + 1, _ => by
    unfold czF
    by_cases e : n = 0 ∨ lenF ρ s ((n : Int) + 1) + T.1 (s + ((n : Int) + 1)) < (czF ρ T s n).1 ∨ (lenF ρ s ((n : Int) + 1) + T.1 (s + ((n : Int) + 1)) = (czF ρ T s n).1 ∧ seR ρ s + T.2.1 (s + ((n : Int) + 1)) < (czF ρ T s n).2.1)
    · rw [if_pos e]
      refine ⟨⟨⟨by show (1 : Int) ≤ (n : Int) + 1; omega, by show (n : Int) + 1 ≤ ((n + 1 : Nat) : Int); omega⟩, rfl, rfl⟩, fun b b1 b2 => ?_⟩
      show lenF ρ s ((n : Int) + 1) + T.1 (s + ((n : Int) + 1)) < _ ∨ (lenF ρ s ((n : Int) + 1) + T.1 (s + ((n : Int) + 1)) = _ ∧ (seR ρ s + T.2.1 (s + ((n : Int) + 1)) < _ ∨ (seR ρ s + T.2.1 (s + ((n : Int) + 1)) = _ ∧ (n : Int) + 1 ≤ b)))
      by_cases eb : b = (n : Int) + 1
      · subst eb
        exact Or.inr ⟨rfl, Or.inr ⟨rfl, Int.le_refl _⟩⟩
      · have q := (cz_min (ρ := ρ) (T := T) (s := s) n (by omega)).2 b b1 (by omega)
        rcases e with e | e | e <;> omega
    · rw [if_neg e]
      have q := cz_min (ρ := ρ) (T := T) (s := s) n (by omega)
      refine ⟨⟨⟨q.1.1.1, by have := q.1.1.2; omega⟩, q.1.2⟩, fun b b1 b2 => ?_⟩
      by_cases eb : b = (n : Int) + 1
      · subst eb
        have q1 := q.1.1
        omega
      · exact q.2 b b1 (by omega)
theorem dp_min {ρ : Rm} {m : Int} {D : Nat} (okr : okR ρ) (hm : m = rS ρ 0) (hD : (D : Int) ≤ m) : ∀ (f : Nat) (s : Int), m - D ≤ s → s ≤ m → m - s ≤ f → okL ρ m s (rowF (tbF ρ m D) m f s) ∧ trL ρ s (rowF (tbF ρ m D) m f s) = ((tbF ρ m D).1 s, (tbF ρ m D).2.1 s, rowF (tbF ρ m D) m f s) ∧ ∀ l, okL ρ m s l → le3 (trL ρ s (rowF (tbF ρ m D) m f s)) (trL ρ s l) := by
  have hfix := tb_fix okr hm D hD
  have o2 := okr.2.2.1
  intro f
  induction f with
  | zero =>
    intro s h1 h2 h3
    have e : s = m := by omega
    subst e
    refine ⟨rfl, ?_, fun l hl => ?_⟩
    · rw [hfix.1, hfix.2.1]; rfl
    · cases l with
      | nil => exact Or.inr ⟨rfl, Or.inr ⟨rfl, trivial⟩⟩
      | cons b l => obtain ⟨⟨b1, b2, b3⟩, -⟩ := hl; omega
  | succ f ih =>
    intro s h1 h2 h3
    by_cases e : s = m
    · subst e
      have er : rowF (tbF ρ s D) s (f + 1) s = [] := if_pos (Int.le_refl _)
      rw [er]
      refine ⟨rfl, ?_, fun l hl => ?_⟩
      · rw [hfix.1, hfix.2.1]; rfl
      · cases l with
        | nil => exact Or.inr ⟨rfl, Or.inr ⟨rfl, trivial⟩⟩
        | cons b l => obtain ⟨⟨b1, b2, b3⟩, -⟩ := hl; omega
    · have er : rowF (tbF ρ m D) m (f + 1) s = (tbF ρ m D).2.2 s :: rowF (tbF ρ m D) m f (s + (tbF ρ m D).2.2 s) := if_neg (by omega)
      have hf := hfix.2.2 s h1 (by omega)
      have hmo : ((moF ρ (m - s) : Nat) : Int) = min (rS ρ 2) (m - s) := by unfold moF; omega
      have hz := cz_min (ρ := ρ) (T := tbF ρ m D) (s := s) (moF ρ (m - s)) (by omega)
      rw [hf] at hz
      simp only at hz
      obtain ⟨⟨⟨g1, g2⟩, g3, g4⟩, g5⟩ := hz
      have q := ih (s + (tbF ρ m D).2.2 s) (by omega) (by omega) (by omega)
      rw [er]
      have q2 := q.2.1
      unfold trL at q2
      injection q2 with q2a q2b
      injection q2b with q2b q2c
      have et : trL ρ s ((tbF ρ m D).2.2 s :: rowF (tbF ρ m D) m f (s + (tbF ρ m D).2.2 s)) = ((tbF ρ m D).1 s, (tbF ρ m D).2.1 s, (tbF ρ m D).2.2 s :: rowF (tbF ρ m D) m f (s + (tbF ρ m D).2.2 s)) := by
        show (lenF ρ s _ + cuL ρ _ _, seR ρ s + smL ρ _ _, _) = _
        rw [q2a, q2b, ← g3, ← g4]
      refine ⟨⟨⟨g1, by omega, by omega⟩, q.1⟩, et, fun l hl => ?_⟩
      rw [et]
      cases l with
      | nil => exact absurd hl e
      | cons b l =>
        obtain ⟨⟨b1, b2, b3⟩, hl⟩ := hl
        have g6 := g5 b b1 (by omega)
        have q3 := ih (s + b) (by omega) b3 (by omega)
        have q4 := q3.2.2 l hl
        rw [q3.2.1] at q4
        have e1 : (trL ρ s (b :: l)).1 = lenF ρ s b + cuL ρ (s + b) l := rfl
        have e2 : (trL ρ s (b :: l)).2.1 = seR ρ s + smL ρ (s + b) l := rfl
        have q5 : (tbF ρ m D).1 (s + b) < cuL ρ (s + b) l ∨ ((tbF ρ m D).1 (s + b) = cuL ρ (s + b) l ∧ ((tbF ρ m D).2.1 (s + b) < smL ρ (s + b) l ∨ ((tbF ρ m D).2.1 (s + b) = smL ρ (s + b) l ∧ leL (rowF (tbF ρ m D) m f (s + b)) l))) := q4
        show (tbF ρ m D).1 s < _ ∨ ((tbF ρ m D).1 s = _ ∧ ((tbF ρ m D).2.1 s < _ ∨ ((tbF ρ m D).2.1 s = _ ∧ ((tbF ρ m D).2.2 s < b ∨ ((tbF ρ m D).2.2 s = b ∧ leL (rowF (tbF ρ m D) m f (s + (tbF ρ m D).2.2 s)) l)))))
        rw [e1, e2]
        by_cases eb : (tbF ρ m D).2.2 s = b
        · rw [eb]
          rcases q5 with q5 | ⟨q5, q6 | ⟨q6, q7⟩⟩
          · omega
          · omega
          · rcases g6 with g6 | ⟨g6, g7 | ⟨g7, g8⟩⟩
            · omega
            · omega
            · exact Or.inr ⟨by omega, Or.inr ⟨by omega, Or.inr ⟨rfl, q7⟩⟩⟩
        · rcases q5 with q5 | ⟨q5, q6 | ⟨q6, q7⟩⟩ <;> rcases g6 with g6 | ⟨g6, g7 | ⟨g7, g8⟩⟩ <;> first | (left; omega) | (right; refine ⟨by omega, ?_⟩; first | (left; omega) | (right; refine ⟨by omega, Or.inl (by omega)⟩))
