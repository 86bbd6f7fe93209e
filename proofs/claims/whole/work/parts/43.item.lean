/-! ===== an item, and a text, as both sides read them ===== -/
/-- the room when one more strip is told -/
def addS (ρ : Rm) (a b c : Int) : Rm := (upI ρ.1 0 (rS ρ 0 + 1), upI ρ.2.1 (rS ρ 0) a, upI ρ.2.2.1 (rS ρ 0) b, upI ρ.2.2.2.1 (rS ρ 0) c, ρ.2.2.2.2)
def addD (ρ : Rm) (a : Int) : Rm := (upI ρ.1 1 (rS ρ 1 + 1), ρ.2.1, ρ.2.2.1, ρ.2.2.2.1, upI ρ.2.2.2.2 (rS ρ 1) a)
def set1 (ρ : Rm) (i a : Int) : Rm := (upI ρ.1 i a, ρ.2)
def set2 (ρ : Rm) (i a b : Int) : Rm := (upI (upI ρ.1 i a) (i + 1) b, ρ.2)
/-- an item at p: the place behind it, the room with it; none: not so -/
def itF (t : Tx) (ρ : Rm) (p : Int) : Option (Int × Rm) :=
  if ltF t p = 115 then (if rS ρ 0 < 12 ∧ nuR t (p + 1) 44 1 40 ∧ nuR t (nxF t (p + 1)) 44 0 9 ∧ nuR t (nxF t (nxF t (p + 1))) 59 0 9 then some (nxF t (nxF t (nxF t (p + 1))), addS ρ (nmF t (p + 1)) (nmF t (nxF t (p + 1))) (nmF t (nxF t (nxF t (p + 1))))) else none)
  else if ltF t p = 114 then (if nuR t (p + 1) 44 1 6 ∧ nuR t (nxF t (p + 1)) 59 1 99 then some (nxF t (nxF t (p + 1)), set2 ρ 2 (nmF t (p + 1)) (nmF t (nxF t (p + 1)))) else none)
  else if ltF t p = 111 then (if nuR t (p + 1) 59 0 5 then some (nxF t (p + 1), set1 ρ 4 (nmF t (p + 1))) else none)
  else if ltF t p = 104 then (if nuR t (p + 1) 59 1 30 then some (nxF t (p + 1), set1 ρ 5 (nmF t (p + 1))) else none)
  else if ltF t p = 107 then (if nuR t (p + 1) 44 0 3 ∧ nuR t (nxF t (p + 1)) 59 1 9 then some (nxF t (nxF t (p + 1)), set2 ρ 6 (nmF t (p + 1)) (nmF t (nxF t (p + 1)))) else none)
  else if ltF t p = 100 then (if rS ρ 1 < 12 ∧ nuR t (p + 1) 59 0 9 then some (nxF t (p + 1), addD ρ (nmF t (p + 1))) else none)
  else none
def scF (t : Tx) : Nat → Int → Rm → Int × Rm
  | 0, _, ρ => (-4, ρ)
  | n + 1, p, ρ => if t.1 ≤ p then (-4, ρ) else match itF t ρ p with
    | none => (p, ρ)
    | some q => scF t n q.1 q.2
/-- a room of which nothing is told -/
def defR : Rm := (fun i => if i = 2 then 3 else if i = 3 then 60 else if i = 4 then 2 else if i = 5 then 12 else if i = 7 then 3 else 0, fun _ => 0, fun _ => 0, fun _ => 0, fun _ => 0)
/-- a room's numbers, of which there may be no strip yet -/
def okD (ρ : Rm) : Prop := (0 ≤ rS ρ 0 ∧ rS ρ 0 ≤ 12) ∧ (0 ≤ rS ρ 1 ∧ rS ρ 1 ≤ 12) ∧ (1 ≤ rS ρ 2 ∧ rS ρ 2 ≤ 6) ∧ (1 ≤ rS ρ 3 ∧ rS ρ 3 ≤ 99) ∧ (0 ≤ rS ρ 4 ∧ rS ρ 4 ≤ 5) ∧ (1 ≤ rS ρ 5 ∧ rS ρ 5 ≤ 30) ∧ (0 ≤ rS ρ 6 ∧ rS ρ 6 ≤ 3) ∧ (1 ≤ rS ρ 7 ∧ rS ρ 7 ≤ 9) ∧
  (∀ s, 0 ≤ s → s < rS ρ 0 → (1 ≤ rL ρ s ∧ rL ρ s ≤ 40) ∧ (0 ≤ rG ρ s ∧ rG ρ s ≤ 9) ∧ 0 ≤ rT ρ s ∧ rT ρ s ≤ 9) ∧ ∀ k, 0 ≤ k → k < rS ρ 1 → 0 ≤ rD ρ k ∧ rD ρ k ≤ 9
theorem okD_def : okD defR := by
  refine ⟨by decide, by decide, by decide, by decide, by decide, by decide, by decide, by decide, fun s a b => ?_, fun s a b => ?_⟩
  · have b' : s < 0 := b
    omega
  · have b' : s < 0 := b
    omega
theorem okD.r {ρ : Rm} (h : okD ρ) (h0 : rS ρ 0 ≠ 0) : okR ρ := by
  obtain ⟨a, b⟩ := h
  exact ⟨⟨by omega, a.2⟩, b⟩
theorem upI_hit {f : Int → Int} {k v : Int} : upI f k v k = v := if_pos rfl
theorem upI_ne {f : Int → Int} {k v j : Int} (h : j ≠ k) : upI f k v j = f j := if_neg h
theorem okD_addS {ρ : Rm} {a b c : Int} (h : okD ρ) (h0 : rS ρ 0 < 12) (ha : 1 ≤ a ∧ a ≤ 40) (hb : 0 ≤ b ∧ b ≤ 9) (hc : 0 ≤ c ∧ c ≤ 9) : okD (addS ρ a b c) := by
  obtain ⟨o0, o1, o2, o3, o4, o5, o6, o7, oS, oD⟩ := h
  have e0 : rS (addS ρ a b c) 0 = rS ρ 0 + 1 := by show upI ρ.1 0 (rS ρ 0 + 1) 0 = _; exact upI_hit
  have e : ∀ i, i ≠ 0 → rS (addS ρ a b c) i = rS ρ i := fun i hi => upI_ne hi
  refine ⟨by rw [e0]; omega, by rw [e _ (by decide)]; exact o1, by rw [e _ (by decide)]; exact o2, by rw [e _ (by decide)]; exact o3, by rw [e _ (by decide)]; exact o4, by rw [e _ (by decide)]; exact o5, by rw [e _ (by decide)]; exact o6, by rw [e _ (by decide)]; exact o7, fun s s0 s1 => ?_, fun k k0 k1 => ?_⟩
  · rw [e0] at s1
    by_cases q : s = rS ρ 0
    · have q1 : rL (addS ρ a b c) s = a := by rw [q]; exact upI_hit
      have q2 : rG (addS ρ a b c) s = b := by rw [q]; exact upI_hit
      have q3 : rT (addS ρ a b c) s = c := by rw [q]; exact upI_hit
      rw [q1, q2, q3]
      exact ⟨ha, hb, hc⟩
    · have q1 : rL (addS ρ a b c) s = rL ρ s := upI_ne q
      have q2 : rG (addS ρ a b c) s = rG ρ s := upI_ne q
      have q3 : rT (addS ρ a b c) s = rT ρ s := upI_ne q
      rw [q1, q2, q3]
      exact oS s s0 (by omega)
  · rw [e _ (by decide)] at k1
    exact oD k k0 k1
theorem okD_addD {ρ : Rm} {a : Int} (h : okD ρ) (h0 : rS ρ 1 < 12) (ha : 0 ≤ a ∧ a ≤ 9) : okD (addD ρ a) := by
  obtain ⟨o0, o1, o2, o3, o4, o5, o6, o7, oS, oD⟩ := h
  have e0 : rS (addD ρ a) 1 = rS ρ 1 + 1 := by show upI ρ.1 1 (rS ρ 1 + 1) 1 = _; exact upI_hit
  have e : ∀ i, i ≠ 1 → rS (addD ρ a) i = rS ρ i := fun i hi => upI_ne hi
  refine ⟨by rw [e _ (by decide)]; exact o0, by rw [e0]; omega, by rw [e _ (by decide)]; exact o2, by rw [e _ (by decide)]; exact o3, by rw [e _ (by decide)]; exact o4, by rw [e _ (by decide)]; exact o5, by rw [e _ (by decide)]; exact o6, by rw [e _ (by decide)]; exact o7, fun s s0 s1 => ?_, fun k k0 k1 => ?_⟩
  · rw [e _ (by decide)] at s1
    exact oS s s0 s1
  · rw [e0] at k1
    by_cases q : k = rS ρ 1
    · have q1 : rD (addD ρ a) k = a := by rw [q]; exact upI_hit
      rw [q1]
      exact ha
    · have q1 : rD (addD ρ a) k = rD ρ k := upI_ne q
      rw [q1]
      exact oD k k0 (by omega)
theorem okD_set {ρ ρ' : Rm} (h : okD ρ) (e2 : ρ'.2 = ρ.2) (e0 : rS ρ' 0 = rS ρ 0) (e1 : rS ρ' 1 = rS ρ 1) (h2 : 1 ≤ rS ρ' 2 ∧ rS ρ' 2 ≤ 6) (h3 : 1 ≤ rS ρ' 3 ∧ rS ρ' 3 ≤ 99) (h4 : 0 ≤ rS ρ' 4 ∧ rS ρ' 4 ≤ 5) (h5 : 1 ≤ rS ρ' 5 ∧ rS ρ' 5 ≤ 30) (h6 : 0 ≤ rS ρ' 6 ∧ rS ρ' 6 ≤ 3) (h7 : 1 ≤ rS ρ' 7 ∧ rS ρ' 7 ≤ 9) : okD ρ' := by
  obtain ⟨o0, o1, o2, o3, o4, o5, o6, o7, oS, oD⟩ := h
  refine ⟨by rw [e0]; exact o0, by rw [e1]; exact o1, h2, h3, h4, h5, h6, h7, fun s s0 s1 => ?_, fun k k0 k1 => ?_⟩
  · show (1 ≤ ρ'.2.1 s ∧ ρ'.2.1 s ≤ 40) ∧ (0 ≤ ρ'.2.2.1 s ∧ ρ'.2.2.1 s ≤ 9) ∧ 0 ≤ ρ'.2.2.2.1 s ∧ ρ'.2.2.2.1 s ≤ 9
    rw [e2]
    exact oS s s0 (by omega)
  · show 0 ≤ ρ'.2.2.2.2 k ∧ ρ'.2.2.2.2 k ≤ 9
    rw [e2]
    exact oD k k0 (by omega)
theorem set1_hit {ρ : Rm} {i a : Int} : rS (set1 ρ i a) i = a := upI_hit
theorem set1_ne {ρ : Rm} {i a j : Int} (h : j ≠ i) : rS (set1 ρ i a) j = rS ρ j := upI_ne h
theorem set2_hit {ρ : Rm} {i a b : Int} : rS (set2 ρ i a b) i = a := by
  show upI (upI ρ.1 i a) (i + 1) b i = a
  rw [upI_ne (by omega), upI_hit]
theorem set2_hit' {ρ : Rm} {i a b : Int} : rS (set2 ρ i a b) (i + 1) = b := upI_hit
theorem set2_ne {ρ : Rm} {i a b j : Int} (h : j ≠ i) (h2 : j ≠ i + 1) : rS (set2 ρ i a b) j = rS ρ j := by
  show upI (upI ρ.1 i a) (i + 1) b j = ρ.1 j
  rw [upI_ne h2, upI_ne h]
theorem nx_r (t : Tx) (p : Int) : p + 1 ≤ nxF t p ∧ nxF t p ≤ p + 3 := by
  have := fg_r t p
  unfold nxF
  omega
theorem it_ok {t : Tx} {ρ : Rm} {p : Int} {q : Int × Rm} (h : okD ρ) (e : itF t ρ p = some q) : okD q.2 ∧ p + 2 ≤ q.1 ∧ q.1 ≤ p + 10 := by
  have n1 := nx_r t (p + 1)
  have n2 := nx_r t (nxF t (p + 1))
  have n3 := nx_r t (nxF t (nxF t (p + 1)))
  have h' := h
  obtain ⟨o0, o1, o2, o3, o4, o5, o6, o7, oS, oD⟩ := h'
  unfold itF at e
  split at e
  · split at e
    · rename_i c
      cases e
      exact ⟨okD_addS h c.1 c.2.1.2 c.2.2.1.2 c.2.2.2.2, by show p + 2 ≤ nxF t (nxF t (nxF t (p + 1))); omega, by show nxF t (nxF t (nxF t (p + 1))) ≤ p + 10; omega⟩
    · cases e
  · split at e
    · split at e
      · rename_i c
        cases e
        refine ⟨okD_set (ρ := ρ) h rfl (set2_ne (by decide) (by decide)) (set2_ne (by decide) (by decide)) ?_ ?_ ?_ ?_ ?_ ?_, by show p + 2 ≤ nxF t (nxF t (p + 1)); omega, by show nxF t (nxF t (p + 1)) ≤ p + 10; omega⟩
        · show 1 ≤ rS (set2 ρ 2 _ _) 2 ∧ rS (set2 ρ 2 _ _) 2 ≤ 6
          rw [set2_hit]; exact c.1.2
        · show 1 ≤ rS (set2 ρ 2 _ _) (2 + 1) ∧ rS (set2 ρ 2 _ _) (2 + 1) ≤ 99
          rw [set2_hit']; exact c.2.2
        · show 0 ≤ rS (set2 ρ 2 _ _) 4 ∧ _
          rw [set2_ne (by decide) (by decide)]; exact o4
        · show 1 ≤ rS (set2 ρ 2 _ _) 5 ∧ _
          rw [set2_ne (by decide) (by decide)]; exact o5
        · show 0 ≤ rS (set2 ρ 2 _ _) 6 ∧ _
          rw [set2_ne (by decide) (by decide)]; exact o6
        · show 1 ≤ rS (set2 ρ 2 _ _) 7 ∧ _
          rw [set2_ne (by decide) (by decide)]; exact o7
      · cases e
    · split at e
      · split at e
        · rename_i c
          cases e
          refine ⟨okD_set (ρ := ρ) h rfl (set1_ne (by decide)) (set1_ne (by decide)) ?_ ?_ ?_ ?_ ?_ ?_, by show p + 2 ≤ nxF t (p + 1); omega, by show nxF t (p + 1) ≤ p + 10; omega⟩
          · show 1 ≤ rS (set1 ρ 4 _) 2 ∧ _
            rw [set1_ne (by decide)]; exact o2
          · show 1 ≤ rS (set1 ρ 4 _) 3 ∧ _
            rw [set1_ne (by decide)]; exact o3
          · show 0 ≤ rS (set1 ρ 4 _) 4 ∧ rS (set1 ρ 4 _) 4 ≤ 5
            rw [set1_hit]; exact c.2
          · show 1 ≤ rS (set1 ρ 4 _) 5 ∧ _
            rw [set1_ne (by decide)]; exact o5
          · show 0 ≤ rS (set1 ρ 4 _) 6 ∧ _
            rw [set1_ne (by decide)]; exact o6
          · show 1 ≤ rS (set1 ρ 4 _) 7 ∧ _
            rw [set1_ne (by decide)]; exact o7
        · cases e
      · split at e
        · split at e
          · rename_i c
            cases e
            refine ⟨okD_set (ρ := ρ) h rfl (set1_ne (by decide)) (set1_ne (by decide)) ?_ ?_ ?_ ?_ ?_ ?_, by show p + 2 ≤ nxF t (p + 1); omega, by show nxF t (p + 1) ≤ p + 10; omega⟩
            · show 1 ≤ rS (set1 ρ 5 _) 2 ∧ _
              rw [set1_ne (by decide)]; exact o2
            · show 1 ≤ rS (set1 ρ 5 _) 3 ∧ _
              rw [set1_ne (by decide)]; exact o3
            · show 0 ≤ rS (set1 ρ 5 _) 4 ∧ _
              rw [set1_ne (by decide)]; exact o4
            · show 1 ≤ rS (set1 ρ 5 _) 5 ∧ rS (set1 ρ 5 _) 5 ≤ 30
              rw [set1_hit]; exact c.2
            · show 0 ≤ rS (set1 ρ 5 _) 6 ∧ _
              rw [set1_ne (by decide)]; exact o6
            · show 1 ≤ rS (set1 ρ 5 _) 7 ∧ _
              rw [set1_ne (by decide)]; exact o7
          · cases e
        · split at e
          · split at e
            · rename_i c
              cases e
              refine ⟨okD_set (ρ := ρ) h rfl (set2_ne (by decide) (by decide)) (set2_ne (by decide) (by decide)) ?_ ?_ ?_ ?_ ?_ ?_, by show p + 2 ≤ nxF t (nxF t (p + 1)); omega, by show nxF t (nxF t (p + 1)) ≤ p + 10; omega⟩
              · show 1 ≤ rS (set2 ρ 6 _ _) 2 ∧ _
                rw [set2_ne (by decide) (by decide)]; exact o2
              · show 1 ≤ rS (set2 ρ 6 _ _) 3 ∧ _
                rw [set2_ne (by decide) (by decide)]; exact o3
              · show 0 ≤ rS (set2 ρ 6 _ _) 4 ∧ _
                rw [set2_ne (by decide) (by decide)]; exact o4
              · show 1 ≤ rS (set2 ρ 6 _ _) 5 ∧ _
                rw [set2_ne (by decide) (by decide)]; exact o5
              · show 0 ≤ rS (set2 ρ 6 _ _) 6 ∧ rS (set2 ρ 6 _ _) 6 ≤ 3
                rw [set2_hit]; exact c.1.2
              · show 1 ≤ rS (set2 ρ 6 _ _) (6 + 1) ∧ rS (set2 ρ 6 _ _) (6 + 1) ≤ 9
                rw [set2_hit']; exact c.2.2
            · cases e
          · split at e
            · split at e
              · rename_i c
                cases e
                exact ⟨okD_addD h c.1 c.2.2, by show p + 2 ≤ nxF t (p + 1); omega, by show nxF t (p + 1) ≤ p + 10; omega⟩
              · cases e
            · cases e
theorem sc_ok {t : Tx} : ∀ (n : Nat) (p : Int) (ρ : Rm), okD ρ → okD (scF t n p ρ).2
  | 0, _, _, h => h
  | n + 1, p, ρ, h => by
    unfold scF
    split
    · exact h
    · split
      · exact h
      · rename_i q e
        exact sc_ok n q.1 q.2 (it_ok h e).1
/-- all of a text read -/
def txF (t : Tx) : Int × Rm := scF t 201 0 defR
def fFault (σ : Sg) : Int := (txF σ.1).1
def fLay (σ : Sg) : Int × Sg := if (txF σ.1).1 = -4 ∧ rS (txF σ.1).2 0 ≠ 0 then (rS (txF σ.1).2 0, newS σ (txF σ.1).2) else (-2, σ)
theorem ok_lay {σ : Sg} (ok : okS σ) : okS (fLay σ).2 := by
  unfold fLay
  split
  · rename_i h
    exact ok_new ok ((sc_ok 201 0 defR okD_def).r h.2)
  · exact ok
theorem okS.x {σ : Sg} (ok : okS σ) : okX σ.1 := ⟨ok.1, ok.2.1⟩
