def me4 (n C : Nat) : Nat → Int
  | 0 => 0
  | k + 1 => if n ≤ k then zor (me4 n C k) 0 else zor (me4 n C k) (zshl 1 (wlN 4 C k))
def re4 (n C : Nat) : Nat → Int
  | 0 => 1
  | k + 1 => if re4 n C k = 0 then 0 else if k < n then 1 else if wlN 4 C k = 0 then 1 else 0
/-- how many orders of n come before a code of four -/
def cc (n C : Nat) : Nat := (C + 4 ^ (4 - n) - 1) / 4 ^ (4 - n)
theorem cc_fin : ∀ n : Nat, n < 5 → cc n 0 = 0 ∧ cc n 256 = 4 ^ n ∧ ∀ C : Nat, C < 256 → (C % 4 ^ (4 - n) = 0 → cc n (C + 1) = cc n C + 1 ∧ cc n C = C / 4 ^ (4 - n) ∧ C / 4 ^ (4 - n) < 4 ^ n) ∧ (C % 4 ^ (4 - n) ≠ 0 → cc n (C + 1) = cc n C) := by decide +kernel
theorem wl4_fin : ∀ n : Nat, n < 5 → ∀ C : Nat, C < 256 → C % 4 ^ (4 - n) = 0 → ∀ k : Nat, k < n → wlN 4 C k = wlN n (C / 4 ^ (4 - n)) k := by decide +kernel
theorem me_fin : ∀ n : Nat, n < 5 → ∀ C : Nat, C < 256 → ∀ k : Nat, k < 5 → 0 ≤ me4 n C k ∧ me4 n C k < 16 := by decide +kernel
theorem re_fin (n C : Nat) : ∀ k : Nat, re4 n C k = 0 ∨ re4 n C k = 1
  | 0 => Or.inr rfl
  | k + 1 => by
    unfold re4
    split
    · exact Or.inl rfl
    · split
      · exact Or.inr rfl
      · split
        · exact Or.inr rfl
        · exact Or.inl rfl
theorem or4_fin : ∀ F : Nat, F < 16 → ∀ C : Nat, C < 256 → (if me4 (bcn F).toNat C 4 = F ∧ re4 (bcn F).toNat C 4 = 1 then C % 4 ^ (4 - (bcn F).toNat) = 0 ∧ vaA F (bcn F).toNat (C / 4 ^ (4 - (bcn F).toNat)) 0 0 (bcn F).toNat = 1 else (C % 4 ^ (4 - (bcn F).toNat) ≠ 0 ∨ vaA F (bcn F).toNat (C / 4 ^ (4 - (bcn F).toNat)) 0 0 (bcn F).toNat = 0)) := by decide +kernel
