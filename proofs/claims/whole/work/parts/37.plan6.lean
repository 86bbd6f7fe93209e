def ltB : List Int → List Int → Int
  | [], [] => 0
  | [], _ :: _ => 1
  | _ :: _, [] => 0
  | a :: l, b :: k => if a = b then ltB l k else if a < b then 1 else 0
theorem ltB_le : ∀ l k : List Int, (ltB l k = 0 ∧ leL k l) ∨ (ltB l k = 1 ∧ ¬ leL k l)
  | [], [] => Or.inl ⟨rfl, trivial⟩
  | [], _ :: _ => Or.inr ⟨rfl, fun q => q⟩
  | _ :: _, [] => Or.inl ⟨rfl, trivial⟩
  | a :: l, b :: k => by
    have q := ltB_le l k
    unfold ltB
    by_cases e : a = b
    · rw [if_pos e]
      rcases q with ⟨q1, q2⟩ | ⟨q1, q2⟩
      · exact Or.inl ⟨q1, Or.inr ⟨e.symm, q2⟩⟩
      · refine Or.inr ⟨q1, fun r => ?_⟩
        rcases r with r | ⟨r1, r2⟩
        · omega
        · exact q2 r2
    · rw [if_neg e]
      by_cases e2 : a < b
      · rw [if_pos e2]
        refine Or.inr ⟨rfl, fun r => ?_⟩
        rcases r with r | ⟨r1, r2⟩ <;> omega
      · rw [if_neg e2]
        exact Or.inl ⟨rfl, Or.inl (by omega)⟩
section
variable {Γ : Gm} {w : Wd}
/-- a row from place i of array a on -/
def RwM (w : Wd) (a : Nat) : Int → List Int → Prop
  | _, [] => True
  | i, b :: l => wI w a i = b ∧ RwM w a (i + 1) l
theorem RwM.fr {P : Nat → Prop} {u : Wd} {a : Nat} (g : Fr P w u) (hp : ¬ P a) : ∀ (l : List Int) (i : Int), RwM w a i l → RwM u a i l
  | [], _, _ => trivial
  | b :: l, i, h => ⟨by rw [g.2.1 a hp]; exact h.1, RwM.fr g hp l (i + 1) h.2⟩
theorem sp_isBefore {n : Nat} (hM : ModS w) {l0 k0 : List Int} (e24 : wI w 63 24 = (k0.length : Int)) (hn : n = l0.length) (hl : n ≤ 12) (hk : k0.length ≤ 12) (h1 : RwM w 76 0 l0) (h2 : RwM w 77 0 k0) (hb : (∀ x ∈ l0, sm x) ∧ ∀ x ∈ k0, sm x) : SpP Γ m_X7_isBefore [vR 63, vI n] w (ltB l0 k0) := by
  obtain ⟨⟨c0, c1, c2, c3, c4, c5, c6, c7, c8, c9, c10, c11, c12, c13, c14⟩, d1, d2, d3, d4, d5, d6, d7, d8, d9, d10, d11, d12, d13, d14⟩ := id hM
  have key : ∀ (l k : List Int) (i : Nat), i + l.length = l0.length → i + k.length = k0.length → RwM w 76 i l → RwM w 77 i k → (∀ x ∈ l, sm x) → (∀ x ∈ k, sm x) → G Γ m_X7_isBefore (fun v u => ∃ z, v = some (vI z) ∧ z = ltB l k ∧ u = w) 0 0 2 [some (vR 63), some (vI n), some (vI i)] [] w := by
    intro l
    induction l with
    | nil =>
      intro k i hi hk2 _ _ _ _
      have hi : i = l0.length := hi
      cases k with
      | nil =>
        have hk2 : i = k0.length := hk2
        exact k_X7_isBefore_2 (fun _ => k_X7_isBefore_57 (fun _ => k_X7_isBefore_69 ⟨_, rfl, rfl, rfl⟩) (fun q => absurd q (by omega))) (fun q => absurd q (by omega))
      | cons b k =>
        have hk2 : i + (k.length + 1) = k0.length := hk2
        exact k_X7_isBefore_2 (fun _ => k_X7_isBefore_57 (fun q => absurd q (by omega)) (fun _ => k_X7_isBefore_65 ⟨_, rfl, rfl, rfl⟩)) (fun q => absurd q (by omega))
    | cons a l ih =>
      intro k i hi hk2 r1 r2 b1 b2
      have hi : i + (l.length + 1) = l0.length := hi
      cases k with
      | nil =>
        have hk2 : i = k0.length := hk2
        exact k_X7_isBefore_2 (fun q => absurd q (by omega)) (fun _ => k_X7_isBefore_7 (fun _ => k_X7_isBefore_57 (fun _ => k_X7_isBefore_69 ⟨_, rfl, rfl, rfl⟩) (fun q => absurd q (by omega))) (fun q => absurd q (by omega)))
      | cons b k =>
        have hk2 : i + (k.length + 1) = k0.length := hk2
        have e1 : wI w 76 i = a := r1.1
        have e2 : wI w 77 i = b := r2.1
        have ba := b1 a (by simp)
        have bb := b2 b (by simp)
        refine k_X7_isBefore_2 (fun q => absurd q (by omega)) (fun _ => k_X7_isBefore_7 (fun q => absurd q (by omega)) (fun _ => k_X7_isBefore_15 (q1 := 76) (n2 := 12) (q3 := 77) (n4 := 12) (fun q => k_X7_isBefore_51 ?_) (fun q => k_X7_isBefore_30 (q1 := 76) (n2 := 12) (q3 := 77) (n4 := 12) (fun q2 => k_X7_isBefore_49 ⟨_, rfl, ?_, rfl⟩) (fun q2 => k_X7_isBefore_45 ⟨_, rfl, ?_, rfl⟩))))
        · have e : ltB (a :: l) (b :: k) = ltB l k := if_pos (by omega)
          rw [e]
          have hh := ih k (i + 1) (by omega) (by omega) r1.2 r2.2 (fun x hx => b1 x (List.mem_cons_of_mem _ hx)) (fun x hx => b2 x (List.mem_cons_of_mem _ hx))
          rw [Int.natCast_add] at hh
          exact hh
        · exact ((if_neg (by omega)).trans (if_neg (by omega)) : ltB (a :: l) (b :: k) = 0).symm
        · exact ((if_neg (by omega)).trans (if_pos (by omega)) : ltB (a :: l) (b :: k) = 1).symm
  exact i_X7_isBefore (k_X7_isBefore_0 (key l0 k0 0 (by omega) (by omega) h1 h2 hb.1 hb.2))
end
