section
theorem st_elem : ∀ j : Nat, j < 84 → Cond.eq (.elem (.field (.string "StretchedCarpet" 66) "java/lang/String" "value" "[B") (.int (Int32.ofNat j))) (.int (zBy.getD j 0)) ∈ flatC (Jvm.Cond.and given_1 narrow_1) := by decide +kernel
/-- what the start gives of the classes, the arrays, the text -/
theorem start_K {s : State} (l : Launch) {b L : Nat} {xs : Nat → Int32} (hts0 : ∀ w ∈ lw_tbl, w.before #[Value.ref b] s = true) (hgv : (Jvm.Cond.and given_1 narrow_1).before #[Value.ref b] s = true) : ∃ (D : va_G) (ar : Nat → ClassId), PK (l, D, ar, s.heap.size, b, L, xs) s := by
  have hts : ∀ w ∈ TB, w.before #[Value.ref b] s = true := fun w hw => hts0 w (List.mem_filter.mp hw).1
  have hg := flat_of_before _ hgv
  obtain ⟨c0, i0, k0⟩ := u_known hts cw_X0.1 (hts _ cn_X0.2.2.2.1)
  obtain ⟨c1, i1, k1⟩ := u_known hts cw_X1.1 (hts _ cn_X1.2.2.2.1)
  obtain ⟨c2, i2, k2⟩ := u_known hts cw_X2.1 (hts _ cn_X2.2.2.2.1)
  obtain ⟨c3, i3, k3⟩ := u_known hts cw_X3.1 (hts _ cn_X3.2.2.2.1)
  obtain ⟨c4, i4, k4⟩ := u_known hts cw_X4.1 (hts _ cn_X4.2.2.2.1)
  obtain ⟨c5, i5, k5⟩ := u_known hts cw_X5.1 (hts _ cn_X5.2.2.2.1)
  obtain ⟨c6, i6, k6⟩ := u_known hts cw_X6.1 (hts _ cn_X6.2.2.2.1)
  obtain ⟨c7, i7, k7⟩ := u_known hts cw_X7.1 (hts _ cn_X7.2.2.2.1)
  obtain ⟨aI, kI, pI, fI, gI, hI⟩ := Cond.arrayClass_spec (hts _ tb_125)
  obtain ⟨aC, kC, pC, fC, gC, hC⟩ := Cond.arrayClass_spec (hts _ tb_124)
  have hover : (Cond.arrayOver (.object RX0)).before #[Value.ref b] s = true := hts0 _ (List.mem_of_getElem? (i := 182) (by decide +kernel))
  obtain ⟨pO, aO, kO, o1, o2, o3, o4, o5⟩ := Cond.arrayOver_spec hover
  have hA : ∀ a : Nat, a < s.heap.size → ¬ (s.heap.size ≤ a) := fun a h => by omega
  obtain ⟨adK, adV, hS, hR⟩ := vk_Sof (args := #[Value.ref b]) (s := s) (N := 1) (tm := fun _ => .string "StretchedCarpet" 66) (len := [84]) (byt := [zBy]) (A := fun q => s.heap.size ≤ q) (by decide) (fun i hi => hg _ (by decide +kernel)) (fun i hi => hg _ (by decide +kernel)) (fun i hi => hg _ (by decide +kernel)) (fun i hi => by
      have e : i = 0 := by omega
      subst e
      exact hg _ (by decide +kernel)) (fun i hi j hj => by
      have e : i = 0 := by omega
      subst e
      exact hg _ (st_elem j hj)) (fun i j hi hj h => absurd (by omega) h) hA
  refine ⟨(fun c => match c with | 0 => c0 | 1 => c1 | 2 => c2 | 3 => c3 | 4 => c4 | 5 => c5 | 6 => c6 | _ => c7, fun c => match c with | 0 => i0 | 1 => i1 | 2 => i2 | 3 => i3 | 4 => i4 | 5 => i5 | 6 => i6 | _ => i7), (fun k => match k with | 0 => aI | 1 => aC | 2 => aO | 3 => adK 0 | _ => adV 0), ⟨fun c q hq => ?_, fun k q hq => ?_⟩, va_AO.of hover, fun w hw => ?_, ?_, ?_, ?_⟩
  · match c, hq with
    | 0, hq => cases hq; exact k0
    | 1, hq => cases hq; exact k1
    | 2, hq => cases hq; exact k2
    | 3, hq => cases hq; exact k3
    | 4, hq => cases hq; exact k4
    | 5, hq => cases hq; exact k5
    | 6, hq => cases hq; exact k6
    | 7, hq => cases hq; exact k7
    | n + 8, hq => cases hq
  · match k, hq with
    | 0, hq => cases hq; exact ⟨fun n z => ⟨fun k h => (by cases h), kI, gI, pI, hI⟩, fI⟩
    | 1, hq => cases hq; exact ⟨fun n z => ⟨fun k h => (by cases h), kC, gC, pC, hC⟩, fC⟩
    | 2, hq => cases hq; exact ⟨fun n z => ⟨fun k h => (by cases h), kO, o3, pO, o4⟩, kO, pO, o3, o4, o1, o5⟩
    | n + 3, hq => cases hq
  · have h1 := hts0 w (List.mem_filter.mp hw).1
    have h2 := (List.mem_filter.mp hw).2
    refine tb_nw h1 ?_
    cases w <;> first | rfl | exact absurd h2 Bool.false_ne_true
  · exact vk_R.of (A := #[Value.ref b]) (hts0 _ (List.mem_of_getElem? (i := 267) (by decide +kernel))) (hR 0 (by decide))
  · exact ⟨fun i hi => by
      have e : i = 0 := by omega
      subst e
      exact hS.1 0 (by decide), fun i j hi hj _ => by omega⟩
  · exact va_Zof (hts0 _ (List.mem_of_getElem? (i := 277) (by decide +kernel))) (hts _ ts_ini) (va_eqi (hg _ (by decide +kernel))) hA
end
