theorem suL_0 : ∀ l : List Int, (∀ x ∈ l, 1 ≤ x) → 0 ≤ suL l
  | [], _ => Int.le_refl 0
  | b :: l, h => by
    have q := suL_0 l (fun x hx => h x (List.mem_cons_of_mem _ hx))
    have r := h b (by simp)
    show 0 ≤ b + suL l
    omega
theorem okL_of {ρ : Rm} {m : Int} : ∀ (l : List Int) (s : Int), (∀ x ∈ l, 1 ≤ x) → (∀ x ∈ l, x ≤ rS ρ 2) → suL l = m - s → okL ρ m s l
  | [], s, _, _, h => by
    have h : (0 : Int) = m - s := h
    show s = m
    omega
  | b :: l, s, h1, h2, h => by
    have h : b + suL l = m - s := h
    have q := suL_0 l (fun x hx => h1 x (List.mem_cons_of_mem _ hx))
    exact ⟨⟨h1 b (by simp), h2 b (by simp), by omega⟩, okL_of l (s + b) (fun x hx => h1 x (List.mem_cons_of_mem _ hx)) (fun x hx => h2 x (List.mem_cons_of_mem _ hx)) (by omega)⟩
theorem okL_inv {ρ : Rm} {m : Int} : ∀ (l : List Int) (s : Int), okL ρ m s l → (∀ x ∈ l, 1 ≤ x) ∧ (∀ x ∈ l, x ≤ rS ρ 2) ∧ suL l = m - s
  | [], s, h => ⟨fun x hx => absurd hx (List.not_mem_nil), fun x hx => absurd hx (List.not_mem_nil), by have h : s = m := h; show (0 : Int) = m - s; omega⟩
  | b :: l, s, h => by
    obtain ⟨⟨b1, b2, b3⟩, h⟩ := h
    have q := okL_inv l (s + b) h
    refine ⟨fun x hx => ?_, fun x hx => ?_, by show b + suL l = m - s; omega⟩
    · rcases List.mem_cons.1 hx with e | e
      · omega
      · exact q.1 x e
    · rcases List.mem_cons.1 hx with e | e
      · omega
      · exact q.2.1 x e
/-- which edges a row ends at -/
def bfL : List Int → Int → Nat → Nat
  | [], _, _ => 0
  | b :: l, s, k => if (k : Int) + 1 = s + b then 1 else if (k : Int) + 1 < s + b then 0 else bfL l (s + b) k
theorem bfL_01 : ∀ (l : List Int) (s : Int) (k : Nat), bfL l s k ≤ 1
  | [], _, _ => Nat.zero_le _
  | b :: l, s, k => by
    unfold bfL
    split
    · exact Nat.le_refl _
    · split
      · exact Nat.zero_le _
      · exact bfL_01 l _ _
/-- a number by its bits -/
def nbF (f : Nat → Nat) : Nat → Nat
  | 0 => 0
  | n + 1 => nbF f n + f n * 2 ^ n
theorem nb_lt {f : Nat → Nat} (hf : ∀ k, f k ≤ 1) : ∀ n : Nat, nbF f n < 2 ^ n
  | 0 => by show 0 < 1; decide
  | n + 1 => by
    have q := nb_lt hf n
    have h := Nat.mul_le_mul_right (2 ^ n) (hf n)
    show nbF f n + f n * 2 ^ n < 2 ^ (n + 1)
    rw [Nat.pow_succ]
    omega
theorem nb_bit {f : Nat → Nat} (hf : ∀ k, f k ≤ 1) : ∀ n k : Nat, k < n → nbF f n / 2 ^ k % 2 = f k
  | 0, k, h => absurd h (by omega)
  | n + 1, k, h => by
    have hp : 0 < 2 ^ k := Nat.pow_pos (by decide)
    have h1 := hf n
    show (nbF f n + f n * 2 ^ n) / 2 ^ k % 2 = f k
    by_cases e : k = n
    · subst e
      rw [Nat.add_mul_div_right _ _ hp, Nat.div_eq_of_lt (nb_lt hf k)]
      omega
    · have q := nb_bit hf n k (by omega)
      have e2 : f n * 2 ^ n = (f n * 2 ^ (n - k - 1) * 2) * 2 ^ k := by
        have e3 : 2 ^ n = 2 ^ (n - k - 1) * 2 * 2 ^ k := by rw [← Nat.pow_succ, ← Nat.pow_add, show n - k - 1 + 1 + k = n by omega]
        rw [e3, ← Nat.mul_assoc, ← Nat.mul_assoc]
      rw [e2, Nat.add_mul_div_right _ _ hp]
      omega
theorem gst_run {bro : Int} {E : Nat} {set : Int} : ∀ (l : List Int) (s : Nat), (∀ x ∈ l, 1 ≤ x) → suL l = (E : Int) + 1 - s → s ≤ E + 1 → (gst bro E set s).2.1 = 0 → (∀ k : Nat, s ≤ k → k < E → bit set k = (bfL l s k : Int)) → (gst bro E set (E + 1)).1 = (gst bro E set s).1 ++ l
  | [], s, _, h, hs, _, _ => by
    have h : (0 : Int) = (E : Int) + 1 - s := h
    have : s = E + 1 := by omega
    rw [this, List.append_nil]
  | b :: l, s, h1, h, hs, h0, hbit => by
    have h : b + suL l = (E : Int) + 1 - s := h
    have q := suL_0 l (fun x hx => h1 x (List.mem_cons_of_mem _ hx))
    have hb := h1 b (by simp)
    have part : ∀ j : Nat, (j : Int) < b → (gst bro E set (s + j)).1 = (gst bro E set s).1 ∧ (gst bro E set (s + j)).2.1 = j := by
      intro j
      induction j with
      | zero => intro _; exact ⟨rfl, h0⟩
      | succ j ih =>
        intro hj
        have r := ih (by omega)
        have hbj := hbit (s + j) (by omega) (by omega)
        have e1 : bfL (b :: l) s (s + j) = 0 := (if_neg (by omega)).trans (if_pos (by omega))
        rw [e1] at hbj
        have hne : ¬ (s + j = E ∨ bit set ((s + j : Nat) : Int) = 1) := by omega
        have e2 : gst bro E set (s + (j + 1)) = ((gst bro E set (s + j)).1, (gst bro E set (s + j)).2.1 + 1, if (gst bro E set (s + j)).2.2 = 0 then 0 else if bro < (gst bro E set (s + j)).2.1 + 1 then 0 else 1) := if_neg hne
        rw [e2]
        exact ⟨r.1, by show (gst bro E set (s + j)).2.1 + 1 = ((j + 1 : Nat) : Int); omega⟩
    have r := part (b.toNat - 1) (by omega)
    have hk : s + (b.toNat - 1) = E ∨ bit set ((s + (b.toNat - 1) : Nat) : Int) = 1 := by
      by_cases e : s + (b.toNat - 1) = E
      · exact Or.inl e
      · have hbj := hbit (s + (b.toNat - 1)) (by omega) (by omega)
        have e1 : bfL (b :: l) s (s + (b.toNat - 1)) = 1 := if_pos (by omega)
        rw [e1] at hbj
        exact Or.inr hbj
    have e2 : gst bro E set (s + (b.toNat - 1) + 1) = ((gst bro E set (s + (b.toNat - 1))).1 ++ [(gst bro E set (s + (b.toNat - 1))).2.1 + 1], 0, if (gst bro E set (s + (b.toNat - 1))).2.2 = 0 then 0 else if bro < (gst bro E set (s + (b.toNat - 1))).2.1 + 1 then 0 else 1) := if_pos hk
    have e3 : s + (b.toNat - 1) + 1 = s + b.toNat := by omega
    rw [e3, r.1, r.2, show (((b.toNat - 1 : Nat) : Int) + 1) = b by omega] at e2
    have ih := gst_run (bro := bro) (E := E) (set := set) l (s + b.toNat) (fun x hx => h1 x (List.mem_cons_of_mem _ hx)) (by omega) (by omega) (by rw [e2]) (fun k k1 k2 => by
      have hbk := hbit k (by omega) k2
      have e1 : bfL (b :: l) s k = bfL l ((s : Int) + b) k := (if_neg (by omega)).trans (if_neg (by omega))
      rw [e1] at hbk
      rw [show (((s + b.toNat : Nat) : Int)) = (s : Int) + b by omega]
      exact hbk)
    rw [ih, e2, List.append_assoc]
    rfl
/-- every row comes of a set -/
theorem row_set {bro : Int} {E : Nat} (hE : E < 12) (l : List Int) (h1 : ∀ x ∈ l, 1 ≤ x) (h : suL l = (E : Int) + 1) : ∃ n : Nat, n < 2 ^ E ∧ (gst bro E n (E + 1)).1 = l := by
  refine ⟨nbF (bfL l 0) E, nb_lt (fun k => bfL_01 l 0 k) E, ?_⟩
  have h2 : 2 ^ E ≤ 2 ^ 11 := Nat.pow_le_pow_right (by decide) (by omega)
  have h3 := nb_lt (f := bfL l 0) (fun k => bfL_01 l 0 k) E
  have r := gst_run (bro := bro) (E := E) (set := (nbF (bfL l 0) E : Int)) l 0 h1 (by omega) (by omega) rfl (fun k _ k2 => by
    rw [bitN2 _ (by omega) k (by omega), nb_bit (fun k => bfL_01 l 0 k) E k k2]
    rfl)
  rw [r]
  rfl
/-- what the search over the sets below n has found -/
def rwS (ρ : Rm) (E : Nat) (n : Nat) : List Int := (gst (rS ρ 2) E n (E + 1)).1
def okJ (ρ : Rm) (R a : Int) (E n : Nat) : Prop := (gst (rS ρ 2) E n (E + 1)).2.2 = 1 ∧ cuL ρ a (rwS ρ E n) ≤ R
def BP (ρ : Rm) (R a : Int) (E n : Nat) (B : Option Tr) : Prop := (∀ j : Nat, j < n → okJ ρ R a E j → ∃ b, B = some b ∧ le3 b (trL ρ a (rwS ρ E j))) ∧ ∀ b, B = some b → ∃ j : Nat, j < n ∧ okJ ρ R a E j ∧ b = trL ρ a (rwS ρ E j)
theorem BP_0 {ρ : Rm} {R a : Int} {E : Nat} : BP ρ R a E 0 none := ⟨fun j h => absurd h (by omega), fun b h => absurd h (by simp)⟩
theorem BP_skip {ρ : Rm} {R a : Int} {E n : Nat} {B : Option Tr} (h : BP ρ R a E n B) (hn : ¬ okJ ρ R a E n) : BP ρ R a E (n + 1) B := by
  refine ⟨fun j hj ho => ?_, fun b hb => ?_⟩
  · by_cases e : j = n
    · subst e; exact absurd ho hn
    · exact h.1 j (by omega) ho
  · obtain ⟨j, j1, j2, j3⟩ := h.2 b hb
    exact ⟨j, by omega, j2, j3⟩
theorem BP_keep {ρ : Rm} {R a : Int} {E n : Nat} {b : Tr} (h : BP ρ R a E n (some b)) (hn : le3 b (trL ρ a (rwS ρ E n))) : BP ρ R a E (n + 1) (some b) := by
  refine ⟨fun j hj ho => ?_, fun b hb => ?_⟩
  · by_cases e : j = n
    · subst e; exact ⟨b, rfl, hn⟩
    · exact h.1 j (by omega) ho
  · obtain ⟨j, j1, j2, j3⟩ := h.2 b hb
    exact ⟨j, by omega, j2, j3⟩
theorem BP_take {ρ : Rm} {R a : Int} {E n : Nat} {B : Option Tr} (h : BP ρ R a E n B) (ho : okJ ρ R a E n) (hB : ∀ b, B = some b → ¬ le3 b (trL ρ a (rwS ρ E n))) : BP ρ R a E (n + 1) (some (trL ρ a (rwS ρ E n))) := by
  refine ⟨fun j hj hoj => ⟨_, rfl, ?_⟩, fun b hb => ⟨n, by omega, ho, (Option.some.inj hb).symm⟩⟩
  by_cases e : j = n
  · subst e
    rcases le3_tot (trL ρ a (rwS ρ E j)) (trL ρ a (rwS ρ E j)) with q | q <;> exact q
  · obtain ⟨b, b1, b2⟩ := h.1 j (by omega) hoj
    rcases le3_tot b (trL ρ a (rwS ρ E n)) with q | q
    · exact absurd q (hB b b1)
    · exact le3_trans q b2
/-- at the end: the tables' row, if the roll bears it -/
theorem BP_end {ρ : Rm} {R m a : Int} {E D : Nat} {B : Option Tr} (okr : okR ρ) (hm : m = rS ρ 0) (a0 : 0 ≤ a) (hD : (D : Int) = m - a) (hE : (E : Int) + 1 = m - a) (h : BP ρ R a E (2 ^ E) B) : if R < (tbF ρ m D).1 a then B = none else B = some ((tbF ρ m D).1 a, (tbF ρ m D).2.1 a, rowF (tbF ρ m D) m 12 a) := by
  have o0 := okr.1
  have o2 := okr.2.2.1
  have hdp := dp_min (D := D) okr hm (by omega) 12 a (by omega) (by omega) (by omega)
  -- a row that fits is one of all
  have fit : ∀ j : Nat, okJ ρ R a E j → okL ρ m a (rwS ρ E j) := fun j hj => by
    have g := gst_ok (bro := rS ρ 2) (E := E) (set := (j : Int)) o2.1 (E + 1)
    have g0 : (gst (rS ρ 2) E j (E + 1)).2.1 = 0 := by
      show (stp (rS ρ 2) E j E (gst (rS ρ 2) E j E)).2.1 = 0
      unfold stp
      rw [if_pos (Or.inl rfl)]
    have g1 := g.2.2.2.1.1 hj.1
    have g2 := g.1.2
    rw [g0] at g2
    have g3 : suL (rwS ρ E j) + 0 = ((E + 1 : Nat) : Int) := g2
    exact okL_of _ _ g.2.1 g1.2 (by omega)
  by_cases hc : R < (tbF ρ m D).1 a
  · rw [if_pos hc]
    cases B with
    | none => rfl
    | some b =>
      obtain ⟨j, j1, j2, j3⟩ := h.2 b rfl
      have q := hdp.2.2 _ (fit j j2)
      rw [hdp.2.1] at q
      have q2 : (tbF ρ m D).1 a ≤ cuL ρ a (rwS ρ E j) := by
        rcases q with q | q
        · have q : (tbF ρ m D).1 a < cuL ρ a (rwS ρ E j) := q
          omega
        · have q : (tbF ρ m D).1 a = cuL ρ a (rwS ρ E j) := q.1
          omega
      have := j2.2
      omega
  · rw [if_neg hc]
    have hi := okL_inv _ _ hdp.1
    obtain ⟨n, n1, n2⟩ := row_set (bro := rS ρ 2) (E := E) (by omega) (rowF (tbF ρ m D) m 12 a) hi.1 (by omega)
    have n3 : rwS ρ E n = rowF (tbF ρ m D) m 12 a := n2
    have g := gst_ok (bro := rS ρ 2) (E := E) (set := (n : Int)) o2.1 (E + 1)
    have g0 : (gst (rS ρ 2) E n (E + 1)).2.1 = 0 := by
      show (stp (rS ρ 2) E n E (gst (rS ρ 2) E n E)).2.1 = 0
      unfold stp
      rw [if_pos (Or.inl rfl)]
    have ecu : cuL ρ a (rowF (tbF ρ m D) m 12 a) = (tbF ρ m D).1 a := congrArg (fun t : Tr => t.1) hdp.2.1
    have hok : okJ ρ R a E n := ⟨g.2.2.2.1.2 ⟨by omega, by rw [n2]; exact hi.2.1⟩, by rw [n3, ecu]; omega⟩
    obtain ⟨b, b1, b2⟩ := h.1 n n1 hok
    obtain ⟨j, j1, j2, j3⟩ := h.2 b b1
    have q := hdp.2.2 _ (fit j j2)
    rw [← j3] at q
    rw [n3] at b2
    rw [b1, le3_anti b2 q, hdp.2.1]
