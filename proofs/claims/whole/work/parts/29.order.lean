/-- the walls still free, as a set of four -/
def frS (κ : Kp) : Int := zand 15 (zxor (zor (kH κ) (kN κ)) (-1))
/-- the k-th wall of a code of n -/
def wlN (n c k : Nat) : Nat := c / 4 ^ (n - 1 - k) % 4
/-- whether a code names free walls only, each once, as the one side asks -/
def vaA (F : Int) (n c : Nat) : Int → Nat → Nat → Int
  | _, _, 0 => 1
  | m, k, l + 1 => if bit F (wlN n c k) = 0 then 0 else if bit m (wlN n c k) = 1 then 0 else vaA F n c (zor m (zshl 1 (wlN n c k))) (k + 1) l
/-- and as the other: all that are named -/
def meB (n c : Nat) : Nat → Int
  | 0 => 0
  | k + 1 => zor (meB n c k) (zshl 1 (wlN n c k))
theorem ord_fin : ∀ F : Nat, F < 16 → ∀ c : Nat, c < 4 ^ (bcn F).toNat → (vaA F (bcn F).toNat c 0 0 (bcn F).toNat = 1 ∧ meB (bcn F).toNat c (bcn F).toNat = F) ∨ (vaA F (bcn F).toNat c 0 0 (bcn F).toNat = 0 ∧ meB (bcn F).toNat c (bcn F).toNat ≠ F) := by decide +kernel
theorem wl_fin : ∀ n : Nat, n < 5 → ∀ c : Nat, c < 4 ^ n → ∀ k : Nat, k < n → zand (zshr c (2 * (((n : Int) - 1) - k))) 3 = wlN n c k := by decide +kernel
theorem fr_fin : ∀ h : Nat, h < 16 → ∀ t : Nat, t < 16 → (0 ≤ zand 15 (zxor (zor h t) (-1)) ∧ zand 15 (zxor (zor h t) (-1)) < 16) ∧ ∀ i : Nat, i < 4 → (bit (zand 15 (zxor (zor h t) (-1))) i = 1 ∧ bit h i = 0 ∧ bit t i = 0) ∨ (bit (zand 15 (zxor (zor h t) (-1))) i = 0 ∧ ¬ (bit h i = 0 ∧ bit t i = 0)) := by decide +kernel
theorem shl_fin : ∀ n : Nat, n < 5 → zshl 1 (2 * (n : Int)) = ((4 ^ n : Nat) : Int) := by decide +kernel
theorem bcn4 : ∀ F : Nat, F < 16 → bcn F = bit F 0 + bit F 1 + bit F 2 + bit F 3 ∧ 0 ≤ bcn F ∧ bcn F ≤ 4 := by decide +kernel
/-- how many kicks a code asks, or -4 -/
def kiF (ρ : Rm) (n c : Nat) : Kp → Int → Nat → Nat → Int
  | _, a, _, 0 => a
  | κ, a, k, l + 1 => if lk ρ κ (wlN n c k) (if kH κ = 0 then 2 else 4) = -4 then -4 else kiF ρ n c (kick ρ κ (wlN n c k) (lk ρ κ (wlN n c k) (if kH κ = 0 then 2 else 4))) (a + lk ρ κ (wlN n c k) (if kH κ = 0 then 2 else 4)) (k + 1) l
def nF (κ : Kp) : Nat := (bcn (frS κ)).toNat
def ki (ρ : Rm) (κ : Kp) (c : Nat) : Int := if vaA (frS κ) (nF κ) c 0 0 (nF κ) = 1 then kiF ρ (nF κ) c κ 0 0 (nF κ) else -4
/-- the best of the first m codes -/
def boF (ρ : Rm) (κ : Kp) (c0 : Int) : Nat → Int × Int
  | 0 => (-4, c0)
  | m + 1 => if ki ρ κ m = -4 then boF ρ κ c0 m else if (boF ρ κ c0 m).1 = -4 ∨ ki ρ κ m < (boF ρ κ c0 m).1 then (ki ρ κ m, m) else boF ρ κ c0 m
def boK (ρ : Rm) (κ : Kp) : Int × Int := boF ρ κ 0 (4 ^ nF κ)
def fOrder (σ : Sg) (k : Int) : Int := if -1 ≤ k ∧ k ≤ 3 then (if (boK (gR σ) (gK σ)).1 = -4 then -4 else if k = -1 then (boK (gR σ) (gK σ)).1 else if k < nF (gK σ) then wlN (nF (gK σ)) (boK (gR σ) (gK σ)).2.toNat k.toNat else -4) else -1
section
variable {Γ : Gm} {w : Wd}
theorem frS_r {ρ : Rm} {κ : Kp} (ok : okK ρ κ) : (0 ≤ frS κ ∧ frS κ < 16) ∧ (∀ i : Int, 0 ≤ i → i < 4 → (bit (frS κ) i = 1 ∧ freeK κ i) ∨ (bit (frS κ) i = 0 ∧ ¬ freeK κ i)) ∧ nF κ ≤ 4 ∧ bcn (frS κ) = nF κ := by
  have h1 := ok.2.2.2.2.1
  have h2 := ok.2.2.2.2.2.1
  have h := fr_fin (kH κ).toNat (by omega) (kN κ).toNat (by omega)
  rw [show (((kH κ).toNat : Nat) : Int) = kH κ by omega, show (((kN κ).toNat : Nat) : Int) = kN κ by omega] at h
  have h3 : 0 ≤ frS κ ∧ frS κ < 16 := h.1
  have h4 := bcn4 (frS κ).toNat (by omega)
  rw [show (((frS κ).toNat : Nat) : Int) = frS κ by omega] at h4
  refine ⟨h3, fun i a b => ?_, by unfold nF; omega, by unfold nF; omega⟩
  have h5 := h.2 i.toNat (by omega)
  rw [show ((i.toNat : Nat) : Int) = i by omega] at h5
  exact h5
theorem wl_lt {n c k : Nat} : wlN n c k < 4 := Nat.mod_lt _ (by decide)
theorem lk_r {ρ : Rm} {κ : Kp} {i t : Int} : lk ρ κ i t = -4 ∨ (0 ≤ lk ρ κ i t ∧ lk ρ κ i t ≤ 20) := by
  have : ∀ (n : Nat) (f : Int), 0 ≤ f → f + n = 21 → lkF ρ κ i t f n = -4 ∨ (0 ≤ lkF ρ κ i t f n ∧ lkF ρ κ i t f n ≤ 20) := by
    intro n
    induction n with
    | zero => intro f _ _; exact Or.inl rfl
    | succ n ih =>
      intro f h0 h1
      unfold lkF
      split
      · right; omega
      · exact ih (f + 1) (by omega) (by omega)
  exact this 21 0 (by omega) (by omega)
theorem kiF_r {ρ : Rm} {n c : Nat} : ∀ (l k : Nat) (κ : Kp) (a : Int), 0 ≤ a → kiF ρ n c κ a k l = -4 ∨ (0 ≤ kiF ρ n c κ a k l ∧ kiF ρ n c κ a k l ≤ a + 20 * l)
  | 0, k, κ, a, h => Or.inr ⟨h, by show a ≤ _; omega⟩
  | l + 1, k, κ, a, h => by
    unfold kiF
    have hl := lk_r (ρ := ρ) (κ := κ) (i := (wlN n c k : Int)) (t := if kH κ = 0 then 2 else 4)
    split
    · exact Or.inl rfl
    · rename_i h1
      have := kiF_r l (k + 1) (kick ρ κ (wlN n c k) (lk ρ κ (wlN n c k) (if kH κ = 0 then 2 else 4))) (a + lk ρ κ (wlN n c k) (if kH κ = 0 then 2 else 4)) (by omega)
      rcases this with h2 | h2
      · exact Or.inl h2
      · exact Or.inr ⟨h2.1, by omega⟩
theorem sp_wallIn {n c k : Nat} (s61 : sh w 61 = some (.inr 2)) (e0 : wI w 61 0 = n) (hn : n < 5) (hc : c < 4 ^ n) (hk : k < n) : SpP Γ m_X2_wallIn [vR 61, vI c, vI k] w (wlN n c k) := by
  refine i_X2_wallIn (k_X2_wallIn_0 ⟨_, rfl, ?_, rfl⟩)
  rw [e0]
  exact wl_fin n hn c hc k hk
end
