theorem bitN2 : ∀ s : Nat, s < 2048 → ∀ k : Nat, k < 11 → bit s k = ((s / 2 ^ k % 2 : Nat) : Int) := by decide +kernel
theorem zshl2 : ∀ n : Nat, n < 12 → zshl 1 n = ((2 ^ n : Nat) : Int) := by decide +kernel
theorem leL_rfl : ∀ l : List Int, leL l l
  | [] => trivial
  | a :: l => Or.inr ⟨rfl, leL_rfl l⟩
theorem leL_tot : ∀ l k : List Int, leL l k ∨ leL k l
  | [], _ => Or.inl trivial
  | _ :: _, [] => Or.inr trivial
  | a :: l, b :: k => by
    have q := leL_tot l k
    by_cases h1 : a < b
    · exact Or.inl (Or.inl h1)
    · by_cases h2 : b < a
      · exact Or.inr (Or.inl h2)
      · have e : a = b := by omega
        rcases q with q | q
        · exact Or.inl (Or.inr ⟨e, q⟩)
        · exact Or.inr (Or.inr ⟨e.symm, q⟩)
theorem leL_trans : ∀ l k j : List Int, leL l k → leL k j → leL l j
  | [], _, _, _, _ => trivial
  | _ :: _, [], _, h, _ => absurd h (fun q => q)
  | _ :: _, _ :: _, [], _, h => absurd h (fun q => q)
  | a :: l, b :: k, c :: j, h1, h2 => by
    rcases h1 with h1 | ⟨h1, h3⟩ <;> rcases h2 with h2 | ⟨h2, h4⟩
    · exact Or.inl (by omega)
    · exact Or.inl (by omega)
    · exact Or.inl (by omega)
    · exact Or.inr ⟨by omega, leL_trans l k j h3 h4⟩
theorem leL_anti : ∀ l k : List Int, leL l k → leL k l → l = k
  | [], [], _, _ => rfl
  | [], _ :: _, _, h => absurd h (fun q => q)
  | _ :: _, [], h, _ => absurd h (fun q => q)
  | a :: l, b :: k, h1, h2 => by
    rcases h1 with h1 | ⟨h1, h3⟩ <;> rcases h2 with h2 | ⟨h2, h4⟩
    · omega
    · omega
    · omega
    · rw [h1, leL_anti l k h3 h4]
theorem le3_tot (a b : Tr) : le3 a b ∨ le3 b a := by
  unfold le3
  have q := leL_tot a.2.2 b.2.2
  by_cases h1 : a.1 = b.1
  · by_cases h2 : a.2.1 = b.2.1
    · rcases q with q | q
      · exact Or.inl (Or.inr ⟨h1, Or.inr ⟨h2, q⟩⟩)
      · exact Or.inr (Or.inr ⟨h1.symm, Or.inr ⟨h2.symm, q⟩⟩)
    · by_cases h3 : a.2.1 < b.2.1
      · exact Or.inl (Or.inr ⟨h1, Or.inl h3⟩)
      · exact Or.inr (Or.inr ⟨h1.symm, Or.inl (by omega)⟩)
  · by_cases h3 : a.1 < b.1
    · exact Or.inl (Or.inl h3)
    · exact Or.inr (Or.inl (by omega))
theorem le3_trans {a b c : Tr} (h1 : le3 a b) (h2 : le3 b c) : le3 a c := by
  unfold le3 at h1 h2 ⊢
  rcases h1 with h1 | ⟨h1, h3 | ⟨h3, h5⟩⟩ <;> rcases h2 with h2 | ⟨h2, h4 | ⟨h4, h6⟩⟩
  · exact Or.inl (by omega)
  · exact Or.inl (by omega)
  · exact Or.inl (by omega)
  · exact Or.inl (by omega)
  · exact Or.inr ⟨by omega, Or.inl (by omega)⟩
  · exact Or.inr ⟨by omega, Or.inl (by omega)⟩
  · exact Or.inl (by omega)
  · exact Or.inr ⟨by omega, Or.inl (by omega)⟩
  · exact Or.inr ⟨by omega, Or.inr ⟨by omega, leL_trans _ _ _ h5 h6⟩⟩
theorem le3_anti {a b : Tr} (h1 : le3 a b) (h2 : le3 b a) : a = b := by
  unfold le3 at h1 h2
  rcases h1 with h1 | ⟨h1, h3 | ⟨h3, h5⟩⟩ <;> rcases h2 with h2 | ⟨h2, h4 | ⟨h4, h6⟩⟩
  · omega
  · omega
  · omega
  · omega
  · omega
  · omega
  · omega
  · omega
  · obtain ⟨a1, a2, a3⟩ := a
    obtain ⟨b1, b2, b3⟩ := b
    have e := leL_anti _ _ h5 h6
    simp only at h1 h3 e
    rw [h1, h3, e]
-- a set of edges and its row
def stp (bro : Int) (E : Nat) (set : Int) (k : Nat) (p : List Int × Int × Int) : List Int × Int × Int := if k = E ∨ bit set k = 1 then (p.1 ++ [p.2.1 + 1], 0, if p.2.2 = 0 then 0 else if bro < p.2.1 + 1 then 0 else 1) else (p.1, p.2.1 + 1, if p.2.2 = 0 then 0 else if bro < p.2.1 + 1 then 0 else 1)
def gst (bro : Int) (E : Nat) (set : Int) : Nat → List Int × Int × Int
  | 0 => ([], 0, 1)
  | k + 1 => stp bro E set k (gst bro E set k)
def suL : List Int → Int
  | [] => 0
  | b :: l => b + suL l
theorem suL_app (l : List Int) (b : Int) : suL (l ++ [b]) = suL l + b := by
  induction l with
  | nil => show b + 0 = 0 + b; omega
  | cons a l ih => show a + suL (l ++ [b]) = a + suL l + b; rw [ih]; omega
/-- what holds while a row is read off a set -/
def gOk (bro : Int) (k : Nat) (p : List Int × Int × Int) : Prop := (0 ≤ p.2.1 ∧ suL p.1 + p.2.1 = k) ∧ (∀ x ∈ p.1, 1 ≤ x) ∧ (p.2.2 = 0 ∨ p.2.2 = 1) ∧ (p.2.2 = 1 ↔ (p.2.1 ≤ bro ∧ ∀ x ∈ p.1, x ≤ bro)) ∧ (p.1.length : Int) + p.2.1 ≤ k
theorem gst_ok {bro : Int} {E : Nat} {set : Int} (hb : 1 ≤ bro) : ∀ k : Nat, gOk bro k (gst bro E set k)
  | 0 => ⟨⟨Int.le_refl 0, rfl⟩, fun x hx => absurd hx (List.not_mem_nil), Or.inr rfl, ⟨fun _ => ⟨by show (0 : Int) ≤ bro; omega, fun x hx => absurd hx (List.not_mem_nil)⟩, fun _ => rfl⟩, by show ((([] : List Int).length : Nat) : Int) + 0 ≤ ((0 : Nat) : Int); simp⟩
  | k + 1 => by
    obtain ⟨⟨q1, q2⟩, q3, q4, q5, q6⟩ := gst_ok (bro := bro) (E := E) (set := set) hb k
    have hf : (if (gst bro E set k).2.2 = 0 then (0 : Int) else if bro < (gst bro E set k).2.1 + 1 then 0 else 1) = 0 ∨ (if (gst bro E set k).2.2 = 0 then (0 : Int) else if bro < (gst bro E set k).2.1 + 1 then 0 else 1) = 1 := by
      split
      · exact Or.inl rfl
      · split
        · exact Or.inl rfl
        · exact Or.inr rfl
    have hg : (if (gst bro E set k).2.2 = 0 then (0 : Int) else if bro < (gst bro E set k).2.1 + 1 then 0 else 1) = 1 ↔ ((gst bro E set k).2.1 + 1 ≤ bro ∧ ∀ x ∈ (gst bro E set k).1, x ≤ bro) := by
      by_cases e1 : (gst bro E set k).2.2 = 0
      · rw [if_pos e1]
        refine ⟨fun q => absurd q (by decide), fun q => ?_⟩
        have := q5.2 ⟨by omega, q.2⟩
        omega
      · rw [if_neg e1]
        have e2 : (gst bro E set k).2.2 = 1 := by omega
        have e3 := q5.1 e2
        by_cases e4 : bro < (gst bro E set k).2.1 + 1
        · rw [if_pos e4]
          exact ⟨fun q => absurd q (by decide), fun q => absurd q.1 (by omega)⟩
        · rw [if_neg e4]
          exact ⟨fun _ => ⟨by omega, e3.2⟩, fun _ => rfl⟩
    show gOk bro (k + 1) (stp bro E set k (gst bro E set k))
    unfold stp
    split
    · refine ⟨⟨Int.le_refl 0, ?_⟩, fun x hx => ?_, hf, ?_, ?_⟩
      · show suL ((gst bro E set k).1 ++ [(gst bro E set k).2.1 + 1]) + 0 = ((k + 1 : Nat) : Int)
        rw [suL_app]; omega
      · rcases List.mem_append.1 hx with h | h
        · exact q3 x h
        · have : x = (gst bro E set k).2.1 + 1 := by simpa using h
          omega
      · show _ = 1 ↔ ((0 : Int) ≤ bro ∧ ∀ x ∈ (gst bro E set k).1 ++ [(gst bro E set k).2.1 + 1], x ≤ bro)
        rw [hg]
        refine ⟨fun q => ⟨by omega, fun x hx => ?_⟩, fun q => ⟨q.2 _ (List.mem_append.2 (Or.inr (by simp))), fun x hx => q.2 x (List.mem_append.2 (Or.inl hx))⟩⟩
        rcases List.mem_append.1 hx with h | h
        · exact q.2 x h
        · have : x = (gst bro E set k).2.1 + 1 := by simpa using h
          omega
      · show ((((gst bro E set k).1 ++ [(gst bro E set k).2.1 + 1]).length : Nat) : Int) + 0 ≤ ((k + 1 : Nat) : Int)
        rw [List.length_append]
        simp only [List.length_cons, List.length_nil]
        omega
    · refine ⟨⟨by show 0 ≤ (gst bro E set k).2.1 + 1; omega, by show suL (gst bro E set k).1 + ((gst bro E set k).2.1 + 1) = ((k + 1 : Nat) : Int); omega⟩, q3, hf, hg, by show (((gst bro E set k).1.length : Nat) : Int) + ((gst bro E set k).2.1 + 1) ≤ ((k + 1 : Nat) : Int); omega⟩
