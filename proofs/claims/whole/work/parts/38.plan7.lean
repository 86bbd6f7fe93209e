theorem cu_r {ρ : Rm} {m : Int} (okr : okR ρ) (hm : m = rS ρ 0) : ∀ (l : List Int) (s : Int), 0 ≤ s → s ≤ m → okL ρ m s l → (0 ≤ cuL ρ s l ∧ cuL ρ s l ≤ 45 * (m - s)) ∧ (0 ≤ smL ρ s l ∧ smL ρ s l ≤ 18 * (m - s)) ∧ (l.length : Int) ≤ m - s
  | [], s, h0, h1, _ => ⟨⟨Int.le_refl 0, by show (0 : Int) ≤ _; omega⟩, ⟨Int.le_refl 0, by show (0 : Int) ≤ _; omega⟩, by show ((0 : Nat) : Int) ≤ _; omega⟩
  | b :: l, s, h0, h1, h => by
    obtain ⟨⟨b1, b2, b3⟩, h⟩ := h
    have q := cu_r okr hm l (s + b) (by omega) b3 h
    have h2 := lenF_r (ρ := ρ) (a := s) (b := b) okr h0 (by omega) (by omega)
    have h3 := seR_r (ρ := ρ) (s := s) okr (by omega)
    refine ⟨?_, ?_, ?_⟩
    · show 0 ≤ lenF ρ s b + cuL ρ (s + b) l ∧ lenF ρ s b + cuL ρ (s + b) l ≤ _
      omega
    · show 0 ≤ seR ρ s + smL ρ (s + b) l ∧ seR ρ s + smL ρ (s + b) l ≤ _
      omega
    · show ((l.length + 1 : Nat) : Int) ≤ _
      omega
/-- what the search's fields and rows stand at -/
def mbS (u : Wd) : Option Tr → Prop
  | none => wI u 63 25 = -1 ∧ wI u 63 26 = 0 ∧ wI u 63 24 = 0
  | some t => (wI u 63 25 = t.1 ∧ wI u 63 26 = t.2.1 ∧ wI u 63 24 = (t.2.2.length : Int)) ∧ RwM u 77 0 t.2.2 ∧ (t.2.2.length ≤ 12 ∧ ∀ x ∈ t.2.2, sm x) ∧ (0 ≤ t.1 ∧ t.1 < 1000) ∧ 0 ≤ t.2.1 ∧ t.2.1 < 1000
section
variable {Γ : Gm} {w : Wd}
theorem sp_seamM {ρ : Rm} {s : Int} (hM : RoomM w ρ) (okr : okR ρ) (hs : 0 < s ∧ s ≤ rS ρ 0) : SpP Γ m_X7_seamAt [vR 63, vI (s - 1)] w (seR ρ s) := by
  obtain ⟨⟨c0, c1, c2, c3, c4, c5, c6, c7, c8, c9, c10, c11, c12, c13, c14⟩, d1, d2, d3, d4, d5, d6, d7, d8, d9, d10, d11, d12, d13, d14⟩ := id hM.1
  have o0 := okr.1
  have h := hM.2.2.2.2.1 (s - 1) (by omega) (by omega)
  refine i_X7_seamAt (k_X7_seamAt_0 (q1 := 68) (n2 := 36) ⟨_, rfl, ?_, rfl⟩)
  rw [h.2.1, h.2.2]
  exact (if_neg (by omega)).symm
end
