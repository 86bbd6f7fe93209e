section
variable {Γ : Gm} {w : Wd}
theorem rp {z z' : Int} (h : z = z') : ∃ x, some (vI z) = some (vI x) ∧ x = z' ∧ w = w := ⟨z, rfl, h, rfl⟩
theorem ri {z : Int} {u : Wd} {Q : Int → Wd → Prop} (h : Q z u) : ∃ x, some (vI z) = some (vI x) ∧ Q x u := ⟨z, rfl, h⟩
theorem rv {u : Wd} {Q : Wd → Prop} (h : Q u) : (none : Option Value) = none ∧ Q u := ⟨rfl, h⟩
theorem SpP.cast {y : Mu} {as : List Value} {z z' : Int} (h : SpP Γ y as w z) (e : z = z') : SpP Γ y as w z' := e ▸ h
theorem sp_within1 {a b c : Int} (h : b ≤ a ∧ a ≤ c) (ha : sm a) (hb : sm b) (hc : sm c) : SpP Γ m_X6_within [vI a, vI b, vI c] w 1 :=
  i_X6_within (k_X6_within_0 (fun q => absurd q (by omega)) (fun _ => k_X6_within_5 (fun q => absurd q (by omega)) (fun _ => k_X6_within_10 (rp rfl))))
theorem sp_within0 {a b c : Int} (h : ¬ (b ≤ a ∧ a ≤ c)) (ha : sm a) (hb : sm b) (hc : sm c) : SpP Γ m_X6_within [vI a, vI b, vI c] w 0 :=
  i_X6_within (k_X6_within_0 (fun _ => k_X6_within_14 (rp rfl)) (fun _ => k_X6_within_5 (fun _ => k_X6_within_14 (rp rfl)) (fun q => absurd q (by omega))))
theorem sp_isWall1 {a : Int} (h : 0 ≤ a ∧ a ≤ 3) : SpP Γ m_X6_isWall [vI a] w 1 := i_X6_isWall (k_X6_isWall_0 (sp_within1 h (by omega) (by omega) (by omega)) (rp rfl))
theorem sp_isWall0 {a : Int} (ha : sm a) (h : ¬ (0 ≤ a ∧ a ≤ 3)) : SpP Γ m_X6_isWall [vI a] w 0 := i_X6_isWall (k_X6_isWall_0 (sp_within0 h ha (by omega) (by omega)) (rp rfl))
theorem sp_at {p n : Nat} {a : Int} (h : sh w p = some (.inl (0, n))) (hn : n < 1000) (ha : 0 ≤ a ∧ a < n) : SpP Γ m_X6_at [vR p, vI a] w (wI w p a) :=
  i_X6_at (k_X6_at_0 (fun q => absurd q (by omega)) (fun _ => k_X6_at_4 (n1 := n) (fun q => absurd q (by omega)) (fun _ => k_X6_at_10 (n1 := n) (rp rfl))))
theorem sp_at0 {p n : Nat} {a : Int} (h : sh w p = some (.inl (0, n))) (hn : n < 1000) (ha : sm a) (h0 : ¬ (0 ≤ a ∧ a < n)) : SpP Γ m_X6_at [vR p, vI a] w 0 :=
  i_X6_at (k_X6_at_0 (fun _ => k_X6_at_16 (rp rfl)) (fun _ => k_X6_at_4 (n1 := n) (fun _ => k_X6_at_16 (rp rfl)) (fun q => absurd q (by omega))))
theorem sp_put {p n : Nat} {a v : Int} (h : sh w p = some (.inl (0, n))) (hn : n < 1000) (ha : 0 ≤ a ∧ a < n) : SpV Γ m_X6_put [vR p, vI a, vI v] w (fun u => u = stI w p a v) :=
  i_X6_put (k_X6_put_0 (fun q => absurd q (by omega)) (fun _ => k_X6_put_4 (n1 := n) (fun q => absurd q (by omega)) (fun _ => k_X6_put_10 (n1 := n) (rv rfl))))
theorem r16 {z : Int} (h : 0 ≤ z ∧ z < 16) : z ∈ ([0, 1, 2, 3, 4, 5, 6, 7, 8, 9, 10, 11, 12, 13, 14, 15] : List Int) := by
  simp only [List.mem_cons, List.not_mem_nil, or_false]; omega
theorem r4 {z : Int} (h : 0 ≤ z ∧ z < 4) : z ∈ ([0, 1, 2, 3] : List Int) := by
  simp only [List.mem_cons, List.not_mem_nil, or_false]; omega
theorem bc_eq : ∀ a0 ∈ ([0, 1, 2, 3, 4, 5, 6, 7, 8, 9, 10, 11, 12, 13, 14, 15] : List Int), (zand (((zand (((zand (a0 - (zand (zushr a0 1) 1431655765)) 858993459) + (zand (zushr (a0 - (zand (zushr a0 1) 1431655765)) 2) 858993459)) + (zushr ((zand (a0 - (zand (zushr a0 1) 1431655765)) 858993459) + (zand (zushr (a0 - (zand (zushr a0 1) 1431655765)) 2) 858993459)) 4)) 252645135) + (zushr (zand (((zand (a0 - (zand (zushr a0 1) 1431655765)) 858993459) + (zand (zushr (a0 - (zand (zushr a0 1) 1431655765)) 2) 858993459)) + (zushr ((zand (a0 - (zand (zushr a0 1) 1431655765)) 858993459) + (zand (zushr (a0 - (zand (zushr a0 1) 1431655765)) 2) 858993459)) 4)) 252645135) 8)) + (zushr ((zand (((zand (a0 - (zand (zushr a0 1) 1431655765)) 858993459) + (zand (zushr (a0 - (zand (zushr a0 1) 1431655765)) 2) 858993459)) + (zushr ((zand (a0 - (zand (zushr a0 1) 1431655765)) 858993459) + (zand (zushr (a0 - (zand (zushr a0 1) 1431655765)) 2) 858993459)) 4)) 252645135) + (zushr (zand (((zand (a0 - (zand (zushr a0 1) 1431655765)) 858993459) + (zand (zushr (a0 - (zand (zushr a0 1) 1431655765)) 2) 858993459)) + (zushr ((zand (a0 - (zand (zushr a0 1) 1431655765)) 858993459) + (zand (zushr (a0 - (zand (zushr a0 1) 1431655765)) 2) 858993459)) 4)) 252645135) 8)) 16)) 63) = bcn a0 := by decide +kernel
theorem sp_bc {a : Int} (h : 0 ≤ a ∧ a < 16) : SpP Γ m_J6_bitCount_0f7a4 [vI a] w (bcn a) := i_J6_bitCount_0f7a4 (k_J6_bitCount_0f7a4_0 (rp (bc_eq a (r16 h))))
theorem bit01 : ∀ s ∈ ([0, 1, 2, 3, 4, 5, 6, 7, 8, 9, 10, 11, 12, 13, 14, 15] : List Int), ∀ i ∈ ([0, 1, 2, 3] : List Int), (bit s i = 0 ∨ bit s i = 1) ∧ (0 ≤ sbit s i ∧ sbit s i < 16) ∧ (0 ≤ cbit s i ∧ cbit s i < 16) ∧ ∀ j ∈ ([0, 1, 2, 3] : List Int), bit (sbit s i) j = (if j = i then 1 else bit s j) ∧ bit (cbit s i) j = if j = i then 0 else bit s j := by decide +kernel
theorem bit_or : ∀ s ∈ ([0, 1, 2, 3, 4, 5, 6, 7, 8, 9, 10, 11, 12, 13, 14, 15] : List Int), ∀ t ∈ ([0, 1, 2, 3, 4, 5, 6, 7, 8, 9, 10, 11, 12, 13, 14, 15] : List Int), ∀ i ∈ ([0, 1, 2, 3] : List Int), bit (zor s t) i = if bit s i = 0 ∧ bit t i = 0 then 0 else 1 := by decide +kernel
theorem bcn_r : ∀ s ∈ ([0, 1, 2, 3, 4, 5, 6, 7, 8, 9, 10, 11, 12, 13, 14, 15] : List Int), (0 ≤ bcn s ∧ bcn s ≤ 4) ∧ (bcn s = 0 ↔ s = 0) := by decide +kernel
theorem sp_slack {k g h : Int} (hk : 0 ≤ k ∧ k ≤ 3) (hg : 0 ≤ g ∧ g ≤ 100) (hh : 0 ≤ h ∧ h ≤ 100) : SpP Γ m_X6_slackOf [vI k, vI g, vI h] w (slk k g h) :=
  i_X6_slackOf (k_X6_slackOf_0 (fun q => k_X6_slackOf_28 (rp (by unfold slk; rw [if_pos q]))) (fun q => k_X6_slackOf_32 (rp (by unfold slk; rw [if_neg (by omega), if_pos q]))) (fun q => k_X6_slackOf_34 (rp (by unfold slk; rw [if_neg (by omega), if_neg (by omega), if_pos q]))) (fun q => k_X6_slackOf_38 (rp (by unfold slk; rw [if_neg (by omega), if_neg (by omega), if_neg (by omega)]))))
end
