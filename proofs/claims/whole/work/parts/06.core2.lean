section
variable {Γ : Gm} {μ : Mu} {Ret : Option Value → Wd → Prop} {kc ks pc : Nat} {L : List (Option Value)} {st : List Value} {w : Wd}
-- making
def nwW (w : Wd) : Wd := (w.1 + 1, (fun a i => if a = w.1 then 0 else w.2.1 a i), fun a i => if a = w.1 then .null else w.2.2 a i)
theorem wsW_new (Γ : Gm) {w : Wd} {x : Sh} (h : shp[w.1]? = some x) : wsW Γ w ++ [(Γ.2.2.2.1 + w.1, cellE Γ x (fun _ => 0) (fun _ => .null))] = wsW Γ (nwW w) := by
  have e1 : wsW Γ (nwW w) = (List.range w.1).map (wsE Γ (nwW w)) ++ [wsE Γ (nwW w) w.1] := by
    show (List.range (w.1 + 1)).map _ = _
    rw [List.range_succ, List.map_append]
    rfl
  rw [e1]
  congr 1
  · apply List.map_congr_left
    intro a ha
    have hl : a < w.1 := List.mem_range.mp ha
    have hne : a ≠ w.1 := by omega
    unfold wsE
    have f1 : (nwW w).2.1 a = w.2.1 a := by funext i; show (if a = w.1 then _ else _) = _; rw [if_neg hne]
    have f2 : (nwW w).2.2 a = w.2.2 a := by funext i; show (if a = w.1 then _ else _) = _; rw [if_neg hne]
    rw [f1, f2]
  · unfold wsE
    have f1 : (nwW w).2.1 w.1 = fun _ => 0 := by funext i; show (if w.1 = w.1 then _ else _) = _; rw [if_pos rfl]
    have f2 : (nwW w).2.2 w.1 = fun _ => .null := by funext i; show (if w.1 = w.1 then _ else _) = _; rw [if_pos rfl]
    rw [f1, f2, List.getD_eq_getElem?_getD, h]
    rfl
/-- how large a heap can be that stands behind a start -/
theorem stand_size {p : Program} {l : Launch} {e : Env} {R : Room} {s : State} {m : MethodId} {args : Array Value} {below : List Frame} {meth : Method} {c : Code} {T : State} {locs : List Loc} {cells slots : Nat} (X : Stand p l e R s m args below meth c T locs cells slots) : T.heap.size ≤ s.heap.size + cells := X.same.2.2.1
/-- the heap's size, by what was made -/
theorem size_of {p : Program} {l : Launch} {e : Env} {R : Room} {s : State} {m : MethodId} {args : Array Value} {below : List Frame} {meth : Method} {c : Code} {T : State} {locs : List Loc} {cells slots : Nat} {H : Heap} {locs' : List Loc} (X : Stand p l e R s m args below meth c T locs cells slots) (hT : T.heap = H) (P : PH Γ w H) (S : SS Γ cells w.1 s H locs') : H.size = Γ.2.2.2.1 + w.1 := by
  have h1 := stand_size X
  rw [hT] at h1
  have h2 := S.2.1
  have h3 := S.1.1
  have h7 := S.2.2
  by_cases h0 : w.1 = 0
  · omega
  · have hk : (wsW Γ w)[w.1 - 1]? = some (wsE Γ w (w.1 - 1)) := by
      simp [wsW, List.getElem?_map, List.getElem?_range (show w.1 - 1 < w.1 by omega)]
    have h4 := (P _ _ hk).lt
    have h5 : (wsE Γ w (w.1 - 1)).1 = Γ.2.2.2.1 + (w.1 - 1) := rfl
    rw [h5] at h4
    omega
/-- the place of a new cell -/
theorem new_at {p : Program} {l : Launch} {e : Env} {R : Room} {s : State} {m : MethodId} {args : Array Value} {below : List Frame} {meth : Method} {c : Code} {T : State} {locs : List Loc} {cells slots q : Nat} {H : Heap} {x : va_E} (X : Stand p l e R s m args below meth c T locs (cells + 1) slots) (hT : T.heap = H) (P : va_P Γ.2.1 clsL (wsW Γ w ++ [(q, x)]) H) (D : va_D (Ab Γ) (wsW Γ w ++ [(q, x)])) (S : s.heap.size + cells = Γ.2.2.2.1 + w.1) : q = Γ.2.2.2.1 + w.1 := by
  have h1 := stand_size X
  rw [hT] at h1
  have hk : (wsW Γ w ++ [(q, x)])[w.1]? = some (q, x) := by
    rw [List.getElem?_append_right (by rw [wsW_len]; exact Nat.le_refl _), wsW_len]
    simp
  have h2 : q < H.size := (P _ _ hk).lt
  have h3 : Γ.2.2.2.1 ≤ q := D.2 _ _ hk
  by_cases h4 : q < Γ.2.2.2.1 + w.1
  · have hr : (wsW Γ w ++ [(q, x)])[q - Γ.2.2.2.1]? = some (wsE Γ w (q - Γ.2.2.2.1)) := by
      rw [List.getElem?_append_left (by rw [wsW_len]; omega)]
      simp [wsW, List.getElem?_map, List.getElem?_range (show q - Γ.2.2.2.1 < w.1 by omega)]
    have h5 := D.1 _ _ _ _ hr hk (by show Γ.2.2.2.1 + (q - Γ.2.2.2.1) = q; omega)
    omega
  · omega
def CN (C : String) (N ci : Nat) (T : u_T) (ty0 : Nat → FieldType) : Prop := clsL[ci]? = some (C, T, N) ∧ CW C T N ty0 ∧ (ksO ci).length = N ∧ Cond.instantiable C N ∈ TB ∧ Cond.initialized C ∈ TB ∧ ∀ j, j < N → defaultValue (ty0 j) = if (ksO ci).getD j false then .null else vI 0
theorem G_new {idx ci N : Nat} {C : String} {T : u_T} {ty0 : Nat → FieldType} (hd : decode μ.2.1 pc = .ok (.new idx, 3)) (hC : CN C N ci T ty0) (hl : Cond.classLink μ.1.cls idx C ∈ TB) (hs : shp[w.1]? = some (.inr ci)) (hr : kc + 1 ≤ μ.2.2.2.2.cells ∧ ks + N ≤ μ.2.2.2.2.slots) (kk : G Γ μ Ret (kc + 1) (ks + N) (pc + 3) L (vR w.1 :: st) (nwW w)) : G Γ μ Ret kc ks pc L st w := by
  intro p e R s m args below meth c H locs Q ls Cx0 r0 P S o
  obtain ⟨hc, hW, hlen, hi, hini, hdf⟩ := hC
  have hts := Cx0.2.2.2.2.1
  have hsz0 : ∀ (u : Nat), (if (ksO ci).getD u false = true then cv Γ Value.null else vI 0) = (if (ksO ci).getD u false = true then .null else vI 0) := fun u => rfl
  refine va_new (C := C) (T := T) (N := N) (ci := ci) (fs := (List.range (ksO ci).length).map (obE Γ (ksO ci) (fun _ => 0) (fun _ => .null))) Cx0.1 Cx0.2.1 hts hW.1 ty0 hW.2.1 Cx0.2.2.2.1 (hts _ hl) (hts _ hi) (hts _ hini) Cx0.2.2.2.2.2.2.2.1.1 P (wsW_D Γ w) S.1 (fun q hq => ?_) hc (fun j hj => ?_) (by rw [Cx0.2.2.2.2.2.1]; exact hr.1) (by rw [Cx0.2.2.2.2.2.1]; exact hr.2) hd (fun q H1 a1 a2 a3 => ?_)
  · show Γ.2.2.2.1 ≤ q
    have := S.2.2
    omega
  · rw [hdf j hj]
    unfold vp_V
    rw [List.getD_eq_getElem?_getD (l := List.map _ _), obE_at Γ _ _ (by rw [hlen]; exact hj)]
    rfl
  · intro T0 hT X
    have hq := new_at X hT a1 a2 S.2.1
    subst hq
    rw [show (Γ.2.2.2.1 + w.1, (Sum.inr (ci, (List.range (ksO ci).length).map (obE Γ (ksO ci) (fun _ => 0) (fun _ => .null))) : va_E)) = (Γ.2.2.2.1 + w.1, cellE Γ (.inr ci) (fun _ => 0) (fun _ => .null)) from rfl, wsW_new Γ hs] at a1
    have h := kk p e R s m args below meth c H1 locs Q ls Cx0 r0 a1 ⟨a3, by have := S.2.1; show s.heap.size + (kc + 1) = Γ.2.2.2.1 + (w.1 + 1); omega, S.2.2⟩ o T0 hT X
    have hlt : w.1 < 997 := by
      have := (List.getElem?_eq_some_iff.mp hs).1
      have e9 : shp.length = 78 := by decide +kernel
      omega
    have e2 : (vR w.1 :: st).map (cv Γ) = .ref (Γ.2.2.2.1 + w.1) :: st.map (cv Γ) := by
      show cv Γ (vR w.1) :: _ = _
      rw [show cv Γ (vR w.1) = Value.ref (ad Γ w.1) from rfl, ad, if_neg (by omega), if_neg (by omega), if_neg (by omega)]
    rw [e2] at h
    exact h
theorem RA_same {s : State} {c1 c2 : ClassId} {ty : FieldType} (h1 : va_RA s c1 ty) (h2 : va_RA s c2 ty) : c1 = c2 := by
  cases ty with
  | object C =>
    obtain ⟨-, -, -, -, -, a⟩ := h1
    obtain ⟨-, -, -, -, -, b⟩ := h2
    exact Option.some.inj (a.symm.trans b)
  | _ => exact Option.some.inj ((show s.vm.findClass _ = some c1 from h1).symm.trans (show s.vm.findClass _ = some c2 from h2))
theorem K_last {D : va_G} {cl : List vw_C} {tys : List (ClassId × FieldType)} {c : ClassId} {ty : FieldType} {s : State} (h : va_K D cl (tys ++ [(c, ty)]) s) : va_RA s c ty :=
  (h.2 tys.length (c, ty) (by simp)).2
theorem G_newarr {t n : Nat} {at0 : ArrayType} {ty : FieldType} (hd : decode μ.2.1 pc = .ok (.newarray at0, 2)) (ht : (t = 0 ∧ ty = .int) ∨ (t = 1 ∧ ty = .char)) (hty : newarray.typeOf at0 = ty) (harr : Cond.arrayClass ty ∈ TB) (hs : shp[w.1]? = some (.inl (t, n))) (hn : n < 100000) (hr : kc + 1 ≤ μ.2.2.2.2.cells ∧ ks + n ≤ μ.2.2.2.2.slots) (kk : G Γ μ Ret (kc + 1) (ks + n) (pc + 2) L (vR w.1 :: st) (nwW w)) : G Γ μ Ret kc ks pc L (vI (n : Int) :: st) w := by
  intro p e R s m args below meth c H locs Q ls Cx0 r0 P S o
  have hts := Cx0.2.2.2.2.1
  have hK := Cx0.2.2.2.2.2.2.2.1.1
  have hz : (iI (n : Int)).toNatClampNeg = n := by rw [iI_nat ⟨by omega, by omega⟩]; omega
  have hK0 : va_RA s (Γ.2.2.1 t) ty := by
    rcases ht with ⟨rfl, rfl⟩ | ⟨rfl, rfl⟩
    · exact (hK.2 0 _ rfl).2
    · exact (hK.2 1 _ rfl).2
  have hcb : n * componentBytes ty ≤ 536870912 := by
    rcases ht with ⟨rfl, rfl⟩ | ⟨rfl, rfl⟩
    · show n * 4 ≤ _; omega
    · show n * 2 ≤ _; omega
  refine va_newa (ty := ty) (a0 := (n, .inl (fun _ => iI 0))) (N' := n) Cx0.1 Cx0.2.1 (by rw [hty]; exact hts _ harr) hty hK P (wsW_D Γ w) S.1 (fun q hq => ?_) (fun cA => ?_) (fun q => ?_) hz hcb (by rw [Cx0.2.2.2.2.2.1]; exact hr.1) (by rw [Cx0.2.2.2.2.2.1]; exact hr.2) hd (fun q cA H1 aK a1 a2 a3 => ?_)
  · show Γ.2.2.2.1 ≤ q
    have := S.2.2
    omega
  · rw [vp_cell_i]
    rcases ht with ⟨rfl, rfl⟩ | ⟨rfl, rfl⟩
    · show arrV cA n (fun _ => .int (iI 0)) = arrV cA n (fun _ => .int 0)
      rw [iI_0]
    · show arrV cA n (fun _ => .int (iI 0)) = arrV cA n (fun _ => .int 0)
      rw [iI_0]
  · have h0 : iI (n : Int) < iI 0 := by rw [iI_0]; exact q
    rw [iI_lt ⟨by omega, by omega⟩ ⟨by omega, by omega⟩] at h0
    omega
  · intro T0 hT X
    have hq := new_at X hT a1 a2 S.2.1
    subst hq
    have hcA : cA = Γ.2.2.1 t := RA_same (K_last aK) hK0
    subst hcA
    have e0 : cellE Γ (.inl (t, n)) (fun _ => 0) (fun _ => .null) = .inl (Γ.2.2.1 t, n, .inl (fun _ => iI 0)) := by
      rcases ht with ⟨rfl, rfl⟩ | ⟨rfl, rfl⟩ <;> rfl
    rw [← e0, wsW_new Γ hs] at a1
    have h := kk p e R s m args below meth c H1 locs Q ls Cx0 r0 a1 ⟨a3, by have := S.2.1; show s.heap.size + (kc + 1) = Γ.2.2.2.1 + (w.1 + 1); omega, S.2.2⟩ o T0 hT X
    have hlt : w.1 < 997 := by
      have := (List.getElem?_eq_some_iff.mp hs).1
      have e9 : shp.length = 78 := by decide +kernel
      omega
    have e2 : (vR w.1 :: st).map (cv Γ) = .ref (Γ.2.2.2.1 + w.1) :: st.map (cv Γ) := by
      show cv Γ (vR w.1) :: _ = _
      rw [show cv Γ (vR w.1) = Value.ref (ad Γ w.1) from rfl, ad, if_neg (by omega), if_neg (by omega), if_neg (by omega)]
    rw [e2] at h
    exact h
theorem G_newobj {n idx : Nat} (hd : decode μ.2.1 pc = .ok (.anewarray idx, 3)) (hl : Cond.classLink μ.1.cls idx RX0 ∈ TB) (hs : shp[w.1]? = some (.inl (2, n))) (hn : n < 100000) (hr : kc + 1 ≤ μ.2.2.2.2.cells ∧ ks + n ≤ μ.2.2.2.2.slots) (kk : G Γ μ Ret (kc + 1) (ks + n) (pc + 3) L (vR w.1 :: st) (nwW w)) : G Γ μ Ret kc ks pc L (vI (n : Int) :: st) w := by
  intro p e R s m args below meth c H locs Q ls Cx0 r0 P S o
  have hts := Cx0.2.2.2.2.1
  have hK := Cx0.2.2.2.2.2.2.2.1.1
  have hz : (iI (n : Int)).toNatClampNeg = n := by rw [iI_nat ⟨by omega, by omega⟩]; omega
  refine va_newq (C := RX0) (N' := n) Cx0.1 Cx0.2.1 Cx0.2.2.2.1 (hts _ hl) Cx0.2.2.2.2.2.2.2.1.2.1 hK P (wsW_D Γ w) S.1 (fun q hq => ?_) (fun q => ?_) hz (by omega) (by rw [Cx0.2.2.2.2.2.1]; exact hr.1) (by rw [Cx0.2.2.2.2.2.1]; exact hr.2) hd (fun q cA H1 aK a1 a2 a3 => ?_)
  · show Γ.2.2.2.1 ≤ q
    have := S.2.2
    omega
  · have h0 : iI (n : Int) < iI 0 := by rw [iI_0]; exact q
    rw [iI_lt ⟨by omega, by omega⟩ ⟨by omega, by omega⟩] at h0
    omega
  · intro T0 hT X
    have hq := new_at X hT a1 a2 S.2.1
    subst hq
    have hcA : cA = Γ.2.2.1 2 := RA_same (K_last aK) (hK.2 2 _ rfl).2
    subst hcA
    have e0 : cellE Γ (.inl (2, n)) (fun _ => 0) (fun _ => .null) = .inl (Γ.2.2.1 2, n, .inr (.inr (.inr (.inr (fun _ => none))))) := rfl
    rw [← e0, wsW_new Γ hs] at a1
    have h := kk p e R s m args below meth c H1 locs Q ls Cx0 r0 a1 ⟨a3, by have := S.2.1; show s.heap.size + (kc + 1) = Γ.2.2.2.1 + (w.1 + 1); omega, S.2.2⟩ o T0 hT X
    have hlt : w.1 < 997 := by
      have := (List.getElem?_eq_some_iff.mp hs).1
      have e9 : shp.length = 78 := by decide +kernel
      omega
    have e2 : (vR w.1 :: st).map (cv Γ) = .ref (Γ.2.2.2.1 + w.1) :: st.map (cv Γ) := by
      show cv Γ (vR w.1) :: _ = _
      rw [show cv Γ (vR w.1) = Value.ref (ad Γ w.1) from rfl, ad, if_neg (by omega), if_neg (by omega), if_neg (by omega)]
    rw [e2] at h
    exact h
theorem cat_sum (Γ : Gm) (st : List Value) : ((st.map (cv Γ)).map fun v => v.category).sum = (st.map fun v => v.category).sum := by
  rw [List.map_map]
  congr 1
  apply List.map_congr_left
  intro v _
  exact cv_cat Γ v
theorem G_obj {idx r : Nat} (hd : decode μ.2.1 pc = .ok (.invokespecial idx, 3)) (h1 : Cond.methodLink μ.1.cls idx objectInit ∈ TB) (h2 : Cond.instanceMethod objectInit ∈ TB) (h3 : Cond.code objectInit ⟨#[0xb1]⟩ 1 none ∈ TB) (hs : ∃ x, sh w r = some x) (hr : 1 ≤ μ.2.2.2.2.frames ∧ (st.map fun v => v.category).sum + 12 ≤ μ.2.2.2.2.locals) (kk : G Γ μ Ret kc ks (pc + 3) L st w) : G Γ μ Ret kc ks pc L (vR r :: st) w := by
  intro p e R s m args below meth c H locs Q ls C r0 P S o
  have h := kk p e R s m args below meth c H locs Q ls C r0 P S o
  have hts := C.2.2.2.2.1
  obtain ⟨x, hx⟩ := hs
  show W _ _ _ _ _ _ _ _ _ _ _ _ _ _ _ (F0 m pc ls (cv Γ (vR r) :: st.map (cv Γ)))
  rw [cv_R Γ hx]
  refine W.objInit C.1 C.2.1 C.2.2.2.1 (hts _ h1) (hts _ h2) (hts _ h3) rfl (by rw [C.2.2.1]; exact o.2.1) rfl hd (by rw [C.2.2.2.2.2.1]; exact hr.1) (by rw [C.2.2.2.2.2.1, cat_sum]; have := hr.2; show 0 + _ + 12 ≤ _; omega) ?_
  exact h
-- calls
/-- a contract's end -/
def SpQ (Γ : Gm) (μ : Mu) (w : Wd) (Q : Option Value → Wd → Prop) : Array Value → State → Outcome → State → Prop := fun _ st oc t => (∃ (v : Option Value) (w' : Wd), oc = .returned (v.map (cv Γ)) ∧ Q v w' ∧ PH Γ w' t.heap ∧ w'.1 = w.1 + μ.2.2.2.2.cells) ∧ va_F (Ab Γ) st t
/-- a method's contract: at these arguments and this world -/
def Sp (Γ : Gm) (μ : Mu) (as : List Value) (w : Wd) (Q : Option Value → Wd → Prop) : Prop :=
  Met Γ.1 μ.1 (wsM μ) μ.2.2.2.2 (va_Pc (as.map (cv Γ)) (fun U => PU Γ w U ∧ U.heap.size = Γ.2.2.2.1 + w.1)) (SpQ Γ μ w Q) μ.2.2.2.2.cells μ.2.2.2.2.slots (Ab Γ)
theorem args_LO (Γ : Gm) : ∀ (as : List Value) (i : Nat), (∀ v ∈ as, v.category = 1) → ∀ (k : Nat) (v : Value), as[k]? = some v → (i + k, cv Γ v) ∈ lv_args i (as.map (cv Γ)) := by
  intro as
  induction as with
  | nil => intro i _ k v h; simp at h
  | cons a as ih =>
    intro i hc k v h
    have ha : (cv Γ a).category = 1 := by rw [cv_cat]; exact hc a List.mem_cons_self
    show (i + k, cv Γ v) ∈ (i, cv Γ a) :: lv_args (if (cv Γ a).category = 2 then i + 2 else i + 1) (as.map (cv Γ))
    rw [if_neg (by rw [ha]; decide)]
    cases k with
    | zero =>
      simp only [List.getElem?_cons_zero, Option.some.injEq] at h
      subst h
      exact List.mem_cons_self
    | succ k =>
      refine List.mem_cons_of_mem _ ?_
      have := ih (i + 1) (fun v hv => hc v (List.mem_cons_of_mem _ hv)) k v (by simpa using h)
      rw [show i + (k + 1) = i + 1 + k by omega]
      exact this
theorem sl_len (Γ : Gm) : ∀ (as : List Value), (∀ v ∈ as, v.category = 1) → (lg_sl (as.map (cv Γ))).length = as.length := by
  intro as
  induction as with
  | nil => intro _; rfl
  | cons a as ih =>
    intro hc
    have ha : (cv Γ a).category = 1 := by rw [cv_cat]; exact hc a List.mem_cons_self
    have := ih (fun v hv => hc v (List.mem_cons_of_mem _ hv))
    unfold lg_sl at this ⊢
    simp only [List.map_cons, List.flatMap_cons, List.length_append, List.length_cons]
    rw [if_neg (by rw [ha]; decide), this]
    simp
    omega
theorem Sp_intro {as : List Value} {Q : Option Value → Wd → Prop} (hy : plainName μ.1.cls = true) (hcl : μ.1.cls ≠ RL) (hm : as.length ≤ μ.2.2.1) (hc : ∀ v ∈ as, v.category = 1) (k : G Γ μ Q 0 0 0 (as.map some ++ List.replicate (μ.2.2.1 - as.length) none) [] w) : Sp Γ μ as w Q := by
  refine Met.ofW (cc := μ.2.1) (maxL := μ.2.2.1) (ret := μ.2.2.2.1) hy rfl ?_
  intro p e s m args below meth c s₁ B hml hv
  obtain ⟨rfl, hU, hsz⟩ := hv
  have hown : s.vm.findClass μ.1.cls = some m.cls := findClass_of_methodNamed B.named
  have hts : ∀ w ∈ TB, w.before (as.map (cv Γ)).toArray s = true := fun w hw => atoms_spec (ws := wsM μ) B.pre w (List.mem_cons_of_mem _ hw)
  have hl := lv_entry (as.map (cv Γ)) (n := μ.2.2.1) (by rw [sl_len Γ as hc]; exact hm)
  rw [lg_entry_eq]
  generalize (lg_sl (as.map (cv Γ)) ++ List.replicate (μ.2.2.1 - (lg_sl (as.map (cv Γ))).length) Slot.unset).toArray = ls at hl ⊢
  refine k p e μ.2.2.2.2 s m _ below meth c s.heap [] _ ls ⟨B.exec, B.bytes, hml, hown, hts, rfl, fun _ => (name_of_methodNamed B.named B.method).1, hU.2, fun h => absurd h hcl⟩ ?_ hU.1 ⟨va_S.rf, by rw [hsz]; omega, by rw [hsz]; omega⟩ ⟨by simp; omega, hl.1, hl.2.1, fun i v hi => ?_⟩
  · intro v w' H locs kc ks pc ls' hQ hf hkc hks P S hd
    have hkc : kc = μ.2.2.2.2.cells := hkc.resolve_right (fun h => hcl h.1)
    have hlocks := B.notSynchronized
    have hw' : w'.1 = w.1 + μ.2.2.2.2.cells := by have h1 := S.2.1; rw [hsz, hkc] at h1; omega
    subst hkc
    refine W.widen (k := μ.2.2.2.2.cells) (n := μ.2.2.2.2.slots) (Nat.le_refl _) hks ?_
    have fin (t : State) (ht : t.heap = H) : (∃ (v' : Option Value) (w'' : Wd), Outcome.returned (v.map (cv Γ)) = .returned (v'.map (cv Γ)) ∧ Q v' w'' ∧ PH Γ w'' t.heap ∧ w''.1 = w.1 + μ.2.2.2.2.cells) ∧ va_F (Ab Γ) s t := ⟨⟨v, w', rfl, hQ, by rw [ht]; exact P, hw'⟩, S.1.F ht⟩
    cases v with
    | none =>
      cases hrt : μ.2.2.2.1 with
      | none => exact W.vret B.exec B.bytes (B.returns.trans hrt) (fun t ht _ => fin t ht) S.1.2.2 hd
      | some ty => rw [hrt] at hf; cases ty <;> exact hf.elim
    | some v =>
      cases v with
      | int x =>
        cases hrt : μ.2.2.2.1 with
        | none => rw [hrt] at hf; exact hf.elim
        | some ty =>
          rw [hrt] at hf
          cases ty with
          | int => exact W.iret B.exec B.bytes (B.returns.trans hrt) (fun t ht _ => fin t ht) S.1.2.2 hd
          | byte => exact W.zret B.exec B.bytes (B.returns.trans hrt) (by rw [show x = iI 0 from hf]; decide +kernel) (fun t ht _ => fin t ht) S.1.2.2 hd
          | boolean => exact W.zret B.exec B.bytes (B.returns.trans hrt) (by rcases hf with rfl | rfl <;> decide +kernel) (fun t ht _ => fin t ht) S.1.2.2 hd
          | _ => exact hf.elim
      | ref r =>
        cases hrt : μ.2.2.2.1 with
        | none => rw [hrt] at hf; exact hf.elim
        | some ty =>
          rw [hrt] at hf
          cases ty with
          | object C => exact W.aret (v := .ref (ad Γ r)) B.exec B.bytes (B.returns.trans hrt) (Or.inl ⟨_, rfl⟩) (Or.inr ⟨_, rfl⟩) (fun t ht _ => fin t ht) S.1.2.2 hd
          | array C => exact W.aret (v := .ref (ad Γ r)) B.exec B.bytes (B.returns.trans hrt) (Or.inr ⟨_, rfl⟩) (Or.inr ⟨_, rfl⟩) (fun t ht _ => fin t ht) S.1.2.2 hd
          | _ => exact hf.elim
      | null =>
        cases hrt : μ.2.2.2.1 with
        | none => rw [hrt] at hf; exact hf.elim
        | some ty =>
          rw [hrt] at hf
          cases ty with
          | object C => exact W.aret (v := .null) B.exec B.bytes (B.returns.trans hrt) (Or.inl ⟨_, rfl⟩) (Or.inl rfl) (fun t ht _ => fin t ht) S.1.2.2 hd
          | _ => exact hf.elim
      | _ => exact hd.elim
  · by_cases hi2 : i < as.length
    · have h1 : as[i]? = some v := by
        rw [List.getElem?_append_left (by simpa using hi2)] at hi
        simp only [List.getElem?_map, Option.map_eq_some_iff] at hi
        obtain ⟨a, ha, hb⟩ := hi
        cases hb
        exact ha
      have := args_LO Γ as 0 hc i v h1
      rw [Nat.zero_add] at this
      exact hl.2.2 (i, cv Γ v) this
    · rw [List.getElem?_append_right (by simpa using Nat.le_of_not_lt hi2)] at hi
      have := List.mem_of_getElem? hi
      have := List.eq_of_mem_replicate this
      cases this
/-- behind a call -/
theorem call_on {y : Mu} {p : Program} {e : Env} {R : Room} {s : State} {m : MethodId} {args : Array Value} {below : List Frame} {meth : Method} {c : Code} {H : Heap} {locs : List Loc} {Q : State → Prop} {ls : Array Slot} {st0 : List Value} {w : Wd} {Qv : Option Value → Wd → Prop} {a : Array Value} {rest : List Value}
    (hr : va_Run p Γ.1 e R s m args below meth c H locs kc ks y.2.2.2.2.cells y.2.2.2.2.slots (F0 m pc ls st0) rest (SpQ Γ y w Qv a) (Ab Γ)) (S : SS Γ kc w.1 s H locs)
    (kk : ∀ (v : Option Value) (w' : Wd) (H1 : Heap) (locs1 : List Loc), Qv v w' → PH Γ w' H1 → SS Γ (kc + y.2.2.2.2.cells) w'.1 s H1 locs1 → W p Γ.1 e R s m args below meth c H1 locs1 (kc + y.2.2.2.2.cells) (ks + y.2.2.2.2.slots) Q (F0 m (pc + 3) ls ((v.map (cv Γ)).toList ++ rest))) : W p Γ.1 e R s m args below meth c H locs kc ks Q (F0 m pc ls st0) := by
  intro T hT X
  obtain ⟨v, st₀, t, T', Lc, h0, X', hL, e1, e2, ⟨⟨v', w', hv, hq, hP, hn⟩, hz, hk⟩, stp⟩ := hr T hT X
  cases hv
  rw [h0] at hz hk
  obtain ⟨t2, a1, b1⟩ := kk v' w' T'.heap (locs ++ Lc) hq (by rw [e1]; exact hP) ⟨⟨Nat.le_trans S.1.1 (by rw [e1]; exact hz), fun q h1 h2 => by rw [e1, hk q (Nat.lt_of_lt_of_le h1 S.1.1) h2]; exact S.1.2.1 q h1 h2, fun q hq => by
    rcases List.mem_append.mp hq with h | h
    · exact S.1.2.2 q h
    · exact hL q h⟩, by have := S.2.1; omega, S.2.2⟩ T' rfl X'
  exact ⟨t2, stp t2 a1, b1⟩
theorem blind (as : List Value) : FrameBlind (va_Pc (as.map (cv Γ)) (fun U => PU Γ w U ∧ U.heap.size = Γ.2.2.2.1 + w.1)) := fun a U g mk q => by
  obtain ⟨h1, ⟨h2, h3⟩, h4⟩ := q
  exact ⟨h1, ⟨h2, PK.same (u := U) (U := U.calling g mk a) rfl rfl h3⟩, h4⟩
/-- what the tables say of a method -/
def MC (y : Mu) (n : Nat) : Prop := Cond.code y.1 y.2.1 y.2.2.1 y.2.2.2.1 ∈ TB ∧ Cond.initialized y.1.cls ∈ TB ∧ (y.1.cls ≠ "java/lang/invoke/MethodHandle" ∧ y.1.cls ≠ "java/lang/invoke/VarHandle" ∧ (parseMethodDescriptor y.1.desc).map (fun d => d.parameters.length) = some n)
def MV (y : Mu) (n : Nat) : Prop := MC y n ∧ Cond.instanceMethod y.1 ∈ TB ∧ Cond.selects y.1.cls y.1 y.1 ∈ TB
def MS (y : Mu) (n : Nat) : Prop := MC y n ∧ Cond.static y.1 ∈ TB
def MI (y : Mu) (n : Nat) : Prop := MC y n ∧ Cond.instanceMethod y.1 ∈ TB ∧ y.1.name = "<init>" ∧ y.2.2.2.1 = none
def ML (own : String) (idx : Nat) (y : Mu) : Prop := Cond.methodLink own idx y.1 ∈ TB ∨ ∃ host, Cond.methodLinkNest own idx y.1 host ∈ NB
/-- the callee's room fits -/
def RF (μ y : Mu) (kc ks : Nat) (st : List Value) : Prop := (y.2.2.2.2.frames + 1 ≤ μ.2.2.2.2.frames ∧ 8 + (y.2.2.1 + 11) + y.2.2.2.2.locals ≤ μ.2.2.2.2.locals) ∧ (kc + y.2.2.2.2.cells ≤ μ.2.2.2.2.cells ∧ ks + y.2.2.2.2.slots ≤ μ.2.2.2.2.slots) ∧ (st.map fun v => v.category).sum ≤ 8
theorem G_callS {idx n : Nat} {y : Mu} {as : List Value} {Q : Option Value → Wd → Prop} (hd : decode μ.2.1 pc = .ok (.invokestatic idx, 3)) (hl : ML μ.1.cls idx y) (hm : MS y n) (hn : as.length = n) (hr : RF μ y kc ks st) (hS : Sp Γ y as w Q) (k : ∀ v w', Q v w' → G Γ μ Ret (kc + y.2.2.2.2.cells) (ks + y.2.2.2.2.slots) (pc + 3) L (v.toList ++ st) w') : G Γ μ Ret kc ks pc L (as.reverse ++ st) w := by
  intro p e R s m args below meth c H locs Q0 ls C r0 P S o T hT X
  have hsz := size_of X hT P S
  have hts := C.2.2.2.2.1
  have hp : PreS s H (va_Pc (as.map (cv Γ)) (fun U => PU Γ w U ∧ U.heap.size = Γ.2.2.2.1 + w.1)) (as.map (cv Γ)) := ⟨blind as, fun U hU hW => ⟨rfl, ⟨by rw [hU]; exact P, PK.warm hW (by rw [hU]; exact S.1.2.1) C.2.2.2.2.2.2.2.1⟩, by rw [hU]; exact hsz⟩⟩
  have hst : (as.reverse ++ st).map (cv Γ) = (as.map (cv Γ)).reverse ++ st.map (cv Γ) := by simp
  have hcat := lv_room (m := m) (pc := pc) (ls := ls) (rest := (as.reverse ++ st).map (cv Γ)) (st := st.map (cv Γ)) (by rw [cat_sum]; exact hr.2.2)
  have hrun : va_Run p Γ.1 e R s m args below meth c H locs kc ks y.2.2.2.2.cells y.2.2.2.2.slots (F0 m pc ls ((as.reverse ++ st).map (cv Γ))) (st.map (cv Γ)) (SpQ Γ y w Q (as.map (cv Γ)).toArray) (Ab Γ) := by
    obtain ⟨⟨m1, m2, m3⟩, m4⟩ := hm
    rcases hl with hl | ⟨host, hl⟩
    · exact va_runS (As := as.map (cv Γ)) ⟨C.1, C.2.1, C.2.2.1, C.2.2.2.1, hts⟩ hS ⟨callB_of n hts (tb_goodM m1) rfl rfl rfl (hts _ m2) (hts _ hl) m3 (by rw [C.2.2.2.2.2.1]; exact hr.1), hts _ m4⟩ hp rfl (by simpa using hn) o.2.1 hst hcat hd (by rw [C.2.2.2.2.2.1]; exact hr.2.1)
    · exact va_runSN (As := as.map (cv Γ)) (host := host) ⟨C.1, C.2.1, C.2.2.1, C.2.2.2.1, hts⟩ hS ⟨va_cnB n hts (tb_goodM m1) rfl rfl rfl (C.2.2.2.2.2.2.2.1.2.2.1 _ hl) (hts _ m2) m3 (by rw [C.2.2.2.2.2.1]; exact hr.1), hts _ m4, trivial⟩ hp rfl (by simpa using hn) o.2.1 hst hcat hd (by rw [C.2.2.2.2.2.1]; exact hr.2.1)
  refine call_on hrun S (fun v w' H1 locs1 hq hP hS1 => ?_) T hT X
  have h := k v w' hq p e R s m args below meth c H1 locs1 Q0 ls C r0 hP hS1 o
  have e1 : (v.toList ++ st).map (cv Γ) = (v.map (cv Γ)).toList ++ st.map (cv Γ) := by cases v <;> simp
  rw [e1] at h
  exact h
theorem G_callV {idx n r ci : Nat} {y : Mu} {as : List Value} {Q : Option Value → Wd → Prop} (hd : decode μ.2.1 pc = .ok (.invokevirtual idx, 3)) (hl : ML μ.1.cls idx y) (hm : MV y n) (hn : as.length = n) (hr : RF μ y kc ks st) (hs : sh w r = some (.inr ci)) (hci : ∃ T N, clsL[ci]? = some (y.1.cls, T, N)) (hS : Sp Γ y (vR r :: as) w Q) (k : ∀ v w', Q v w' → G Γ μ Ret (kc + y.2.2.2.2.cells) (ks + y.2.2.2.2.slots) (pc + 3) L (v.toList ++ st) w') : G Γ μ Ret kc ks pc L (as.reverse ++ vR r :: st) w := by
  intro p e R s m args below meth c H locs Q0 ls C r0 P S o T hT X
  have hsz := size_of X hT P S
  have hts := C.2.2.2.2.1
  obtain ⟨Tc, Nc, hci⟩ := hci
  have hrc : ∃ cell : Cell, H[Γ.2.2.2.1 + r]? = some cell ∧ cell.vm.isStatics = false ∧ s.vm.findClass y.1.cls = some cell.cls := va_recv C.2.2.2.2.2.2.2.1.1 P hci (wsW_at Γ hs)
  have hp : PreV s H y.1.cls (Γ.2.2.2.1 + r) (va_Pc ((vR r :: as).map (cv Γ)) (fun U => PU Γ w U ∧ U.heap.size = Γ.2.2.2.1 + w.1)) (as.map (cv Γ)) := ⟨blind (vR r :: as), hrc, fun U hU hW => ⟨by rw [List.map_cons, cv_R Γ hs], ⟨by rw [hU]; exact P, PK.warm hW (by rw [hU]; exact S.1.2.1) C.2.2.2.2.2.2.2.1⟩, by rw [hU]; exact hsz⟩⟩
  have hst : (as.reverse ++ vR r :: st).map (cv Γ) = (as.map (cv Γ)).reverse ++ .ref (Γ.2.2.2.1 + r) :: st.map (cv Γ) := by simp [cv_R Γ hs]
  have hcat := lv_room (m := m) (pc := pc) (ls := ls) (rest := (as.reverse ++ vR r :: st).map (cv Γ)) (st := st.map (cv Γ)) (by rw [cat_sum]; exact hr.2.2)
  have hrun : va_Run p Γ.1 e R s m args below meth c H locs kc ks y.2.2.2.2.cells y.2.2.2.2.slots (F0 m pc ls ((as.reverse ++ vR r :: st).map (cv Γ))) (st.map (cv Γ)) (SpQ Γ y w Q (Value.ref (Γ.2.2.2.1 + r) :: as.map (cv Γ)).toArray) (Ab Γ) := by
    obtain ⟨⟨m1, m2, m3⟩, m4, m5⟩ := hm
    rcases hl with hl | ⟨host, hl⟩
    · exact va_runV (As := as.map (cv Γ)) ⟨C.1, C.2.1, C.2.2.1, C.2.2.2.1, hts⟩ hS ⟨callB_of n hts (tb_goodM m1) rfl rfl rfl (hts _ m2) (hts _ hl) m3 (by rw [C.2.2.2.2.2.1]; exact hr.1), hts _ m4, hts _ m5⟩ hp rfl (by simpa using hn) o.2.1 hst hcat hd (by rw [C.2.2.2.2.2.1]; exact hr.2.1)
    · exact va_runVN (As := as.map (cv Γ)) (host := host) ⟨C.1, C.2.1, C.2.2.1, C.2.2.2.1, hts⟩ hS ⟨va_cnB n hts (tb_goodM m1) rfl rfl rfl (C.2.2.2.2.2.2.2.1.2.2.1 _ hl) (hts _ m2) m3 (by rw [C.2.2.2.2.2.1]; exact hr.1), hts _ m4, hts _ m5⟩ hp rfl (by simpa using hn) o.2.1 hst hcat hd (by rw [C.2.2.2.2.2.1]; exact hr.2.1)
  refine call_on hrun S (fun v w' H1 locs1 hq hP hS1 => ?_) T hT X
  have h := k v w' hq p e R s m args below meth c H1 locs1 Q0 ls C r0 hP hS1 o
  have e1 : (v.toList ++ st).map (cv Γ) = (v.map (cv Γ)).toList ++ st.map (cv Γ) := by cases v <;> simp
  rw [e1] at h
  exact h
theorem G_callI {idx n r ci : Nat} {y : Mu} {as : List Value} {Q : Option Value → Wd → Prop} (hd : decode μ.2.1 pc = .ok (.invokespecial idx, 3)) (hl : ML μ.1.cls idx y) (hm : MI y n) (hn : as.length = n) (hr : RF μ y kc ks st) (hs : sh w r = some (.inr ci)) (hS : Sp Γ y (vR r :: as) w Q) (k : ∀ v w', Q v w' → G Γ μ Ret (kc + y.2.2.2.2.cells) (ks + y.2.2.2.2.slots) (pc + 3) L (v.toList ++ st) w') : G Γ μ Ret kc ks pc L (as.reverse ++ vR r :: st) w := by
  intro p e R s m args below meth c H locs Q0 ls C r0 P S o T hT X
  have hsz := size_of X hT P S
  have hts := C.2.2.2.2.1
  obtain ⟨yn, yb, yl, yr, yo⟩ := y
  obtain ⟨⟨m1, m2, m3⟩, m4, m5, m6⟩ := hm
  have m6 : yr = none := m6
  subst m6
  have hp : PreS s H (va_Pc ((vR r :: as).map (cv Γ)) (fun U => PU Γ w U ∧ U.heap.size = Γ.2.2.2.1 + w.1)) (.ref (Γ.2.2.2.1 + r) :: as.map (cv Γ)) := ⟨blind (vR r :: as), fun U hU hW => ⟨by rw [List.map_cons, cv_R Γ hs], ⟨by rw [hU]; exact P, PK.warm hW (by rw [hU]; exact S.1.2.1) C.2.2.2.2.2.2.2.1⟩, by rw [hU]; exact hsz⟩⟩
  have hst : (as.reverse ++ vR r :: st).map (cv Γ) = (as.map (cv Γ)).reverse ++ .ref (Γ.2.2.2.1 + r) :: st.map (cv Γ) := by simp [cv_R Γ hs]
  have hcat := lv_room (m := m) (pc := pc) (ls := ls) (rest := (as.reverse ++ vR r :: st).map (cv Γ)) (st := st.map (cv Γ)) (by rw [cat_sum]; exact hr.2.2)
  have hrun : va_Run p Γ.1 e R s m args below meth c H locs kc ks yo.cells yo.slots (F0 m pc ls ((as.reverse ++ vR r :: st).map (cv Γ))) (st.map (cv Γ)) (SpQ Γ (yn, yb, yl, none, yo) w Q (Value.ref (Γ.2.2.2.1 + r) :: as.map (cv Γ)).toArray) (Ab Γ) := by
    rcases hl with hl | ⟨host, hl⟩
    · exact va_runI (As := as.map (cv Γ)) ⟨C.1, C.2.1, C.2.2.1, C.2.2.2.1, hts⟩ hS ⟨callB_of n hts (tb_goodM (μ := (yn, yb, yl, none, yo)) m1) rfl rfl rfl (hts _ m2) (hts _ hl) m3 (by rw [C.2.2.2.2.2.1]; exact hr.1), m5, hts _ m4⟩ hp rfl (by simpa using hn) o.2.1 hst hcat hd (by rw [C.2.2.2.2.2.1]; exact hr.2.1)
    · exact va_runIN (As := as.map (cv Γ)) (host := host) ⟨C.1, C.2.1, C.2.2.1, C.2.2.2.1, hts⟩ hS ⟨va_cnB n hts (tb_goodM (μ := (yn, yb, yl, none, yo)) m1) rfl rfl rfl (C.2.2.2.2.2.2.2.1.2.2.1 _ hl) (hts _ m2) m3 (by rw [C.2.2.2.2.2.1]; exact hr.1), m5, hts _ m4⟩ hp rfl (by simpa using hn) o.2.1 hst hcat hd (by rw [C.2.2.2.2.2.1]; exact hr.2.1)
  refine call_on (y := (yn, yb, yl, none, yo)) hrun S (fun v w' H1 locs1 hq hP hS1 => ?_) T hT X
  have h := k v w' hq p e R s m args below meth c H1 locs1 Q0 ls C r0 hP hS1 o
  have e1 : (v.toList ++ st).map (cv Γ) = (v.map (cv Γ)).toList ++ st.map (cv Γ) := by cases v <;> simp
  rw [e1] at h
  exact h
theorem G_ldcw {n : Int} {i : Nat} (hd : decode μ.2.1 pc = .ok (.ldc_w i, 3)) (hc : Cond.constant μ.1.cls i (iI n) ∈ TB) (k : G Γ μ Ret kc ks (pc + 3) L (vI n :: st) w) : G Γ μ Ret kc ks pc L st w :=
  fun p e R s m args below meth c H locs Q ls C r P S o => lv_ldcw C.1 C.2.1 C.2.2.2.1 (C.2.2.2.2.1 _ hc) hd (k p e R s m args below meth c H locs Q ls C r P S o)
/-- an int answer; none; a reference; an int answer and nothing changed -/
def SpI (Γ : Gm) (μ : Mu) (as : List Value) (w : Wd) (Q : Int → Wd → Prop) : Prop := Sp Γ μ as w (fun v u => ∃ z, v = some (vI z) ∧ Q z u)
def SpV (Γ : Gm) (μ : Mu) (as : List Value) (w : Wd) (Q : Wd → Prop) : Prop := Sp Γ μ as w (fun v u => v = none ∧ Q u)
def SpR (Γ : Gm) (μ : Mu) (as : List Value) (w : Wd) (Q : Nat → Wd → Prop) : Prop := Sp Γ μ as w (fun v u => ∃ r, v = some (vR r) ∧ Q r u)
def SpP (Γ : Gm) (μ : Mu) (as : List Value) (w : Wd) (z : Int) : Prop := SpI Γ μ as w (fun v u => v = z ∧ u = w)
def N0 (y : Mu) : Prop := y.2.2.2.2.cells = 0 ∧ y.2.2.2.2.slots = 0
theorem G_n0 {y : Mu} {v : List Value} {u : Wd} (h0 : N0 y) (h : G Γ μ Ret kc ks pc L (v ++ st) u) : G Γ μ Ret (kc + y.2.2.2.2.cells) (ks + y.2.2.2.2.slots) pc L (v ++ st) u := by
  rw [h0.1, h0.2]
  exact h
theorem G_SP {idx n : Nat} {y : Mu} {as : List Value} {z : Int} (h0 : N0 y) (hd : decode μ.2.1 pc = .ok (.invokestatic idx, 3)) (hl : ML μ.1.cls idx y) (hm : MS y n) (hn : as.length = n) (hr : RF μ y kc ks st) (hS : SpP Γ y as w z) (k : G Γ μ Ret kc ks (pc + 3) L (vI z :: st) w) : G Γ μ Ret kc ks pc L (as.reverse ++ st) w :=
  G_callS hd hl hm hn hr hS (fun v u h => by obtain ⟨z', rfl, rfl, rfl⟩ := h; exact G_n0 h0 k)
theorem G_SI {idx n : Nat} {y : Mu} {as : List Value} {Q : Int → Wd → Prop} (h0 : N0 y) (hd : decode μ.2.1 pc = .ok (.invokestatic idx, 3)) (hl : ML μ.1.cls idx y) (hm : MS y n) (hn : as.length = n) (hr : RF μ y kc ks st) (hS : SpI Γ y as w Q) (k : ∀ z u, Q z u → G Γ μ Ret kc ks (pc + 3) L (vI z :: st) u) : G Γ μ Ret kc ks pc L (as.reverse ++ st) w :=
  G_callS hd hl hm hn hr hS (fun v u h => by obtain ⟨z', rfl, hq⟩ := h; exact G_n0 h0 (k z' u hq))
theorem G_SV {idx n : Nat} {y : Mu} {as : List Value} {Q : Wd → Prop} (h0 : N0 y) (hd : decode μ.2.1 pc = .ok (.invokestatic idx, 3)) (hl : ML μ.1.cls idx y) (hm : MS y n) (hn : as.length = n) (hr : RF μ y kc ks st) (hS : SpV Γ y as w Q) (k : ∀ u, Q u → G Γ μ Ret kc ks (pc + 3) L st u) : G Γ μ Ret kc ks pc L (as.reverse ++ st) w :=
  G_callS hd hl hm hn hr hS (fun v u h => by obtain ⟨rfl, hq⟩ := h; exact G_n0 (v := []) h0 (k u hq))
theorem G_VP {idx n r ci : Nat} {y : Mu} {as : List Value} {z : Int} (h0 : N0 y) (hd : decode μ.2.1 pc = .ok (.invokevirtual idx, 3)) (hl : ML μ.1.cls idx y) (hm : MV y n) (hn : as.length = n) (hr : RF μ y kc ks st) (hs : sh w r = some (.inr ci)) (hci : ∃ T N, clsL[ci]? = some (y.1.cls, T, N)) (hS : SpP Γ y (vR r :: as) w z) (k : G Γ μ Ret kc ks (pc + 3) L (vI z :: st) w) : G Γ μ Ret kc ks pc L (as.reverse ++ vR r :: st) w :=
  G_callV hd hl hm hn hr hs hci hS (fun v u h => by obtain ⟨z', rfl, rfl, rfl⟩ := h; exact G_n0 h0 k)
theorem G_VI {idx n r ci : Nat} {y : Mu} {as : List Value} {Q : Int → Wd → Prop} (h0 : N0 y) (hd : decode μ.2.1 pc = .ok (.invokevirtual idx, 3)) (hl : ML μ.1.cls idx y) (hm : MV y n) (hn : as.length = n) (hr : RF μ y kc ks st) (hs : sh w r = some (.inr ci)) (hci : ∃ T N, clsL[ci]? = some (y.1.cls, T, N)) (hS : SpI Γ y (vR r :: as) w Q) (k : ∀ z u, Q z u → G Γ μ Ret kc ks (pc + 3) L (vI z :: st) u) : G Γ μ Ret kc ks pc L (as.reverse ++ vR r :: st) w :=
  G_callV hd hl hm hn hr hs hci hS (fun v u h => by obtain ⟨z', rfl, hq⟩ := h; exact G_n0 h0 (k z' u hq))
theorem G_VR {idx n r ci : Nat} {y : Mu} {as : List Value} {Q : Nat → Wd → Prop} (h0 : N0 y) (hd : decode μ.2.1 pc = .ok (.invokevirtual idx, 3)) (hl : ML μ.1.cls idx y) (hm : MV y n) (hn : as.length = n) (hr : RF μ y kc ks st) (hs : sh w r = some (.inr ci)) (hci : ∃ T N, clsL[ci]? = some (y.1.cls, T, N)) (hS : SpR Γ y (vR r :: as) w Q) (k : ∀ z u, Q z u → G Γ μ Ret kc ks (pc + 3) L (vR z :: st) u) : G Γ μ Ret kc ks pc L (as.reverse ++ vR r :: st) w :=
  G_callV hd hl hm hn hr hs hci hS (fun v u h => by obtain ⟨z', rfl, hq⟩ := h; exact G_n0 h0 (k z' u hq))
theorem G_VV {idx n r ci : Nat} {y : Mu} {as : List Value} {Q : Wd → Prop} (h0 : N0 y) (hd : decode μ.2.1 pc = .ok (.invokevirtual idx, 3)) (hl : ML μ.1.cls idx y) (hm : MV y n) (hn : as.length = n) (hr : RF μ y kc ks st) (hs : sh w r = some (.inr ci)) (hci : ∃ T N, clsL[ci]? = some (y.1.cls, T, N)) (hS : SpV Γ y (vR r :: as) w Q) (k : ∀ u, Q u → G Γ μ Ret kc ks (pc + 3) L st u) : G Γ μ Ret kc ks pc L (as.reverse ++ vR r :: st) w :=
  G_callV hd hl hm hn hr hs hci hS (fun v u h => by obtain ⟨rfl, hq⟩ := h; exact G_n0 (v := []) h0 (k u hq))
theorem G_II {idx n r ci : Nat} {y : Mu} {as : List Value} {Q : Wd → Prop} (hd : decode μ.2.1 pc = .ok (.invokespecial idx, 3)) (hl : ML μ.1.cls idx y) (hm : MI y n) (hn : as.length = n) (hr : RF μ y kc ks st) (hs : sh w r = some (.inr ci)) (hS : SpV Γ y (vR r :: as) w Q) (k : ∀ u, Q u → G Γ μ Ret (kc + y.2.2.2.2.cells) (ks + y.2.2.2.2.slots) (pc + 3) L st u) : G Γ μ Ret kc ks pc L (as.reverse ++ vR r :: st) w :=
  G_callI hd hl hm hn hr hs hS (fun v u h => by obtain ⟨rfl, hq⟩ := h; exact k u hq)
theorem G_reti {z : Int} (hd : decode μ.2.1 pc = .ok (.ireturn, 1)) (hf : rfit μ.2.2.2.1 (some (vI z))) (hk : kc = μ.2.2.2.2.cells ∧ ks ≤ μ.2.2.2.2.slots) (h : Ret (some (vI z)) w) : G Γ μ Ret kc ks pc L [vI z] w := G_ret (some (vI z)) hd hf hk h
theorem G_retr {r : Nat} (hd : decode μ.2.1 pc = .ok (.areturn, 1)) (hf : rfit μ.2.2.2.1 (some (vR r))) (hk : kc = μ.2.2.2.2.cells ∧ ks ≤ μ.2.2.2.2.slots) (h : Ret (some (vR r)) w) : G Γ μ Ret kc ks pc L [vR r] w := G_ret (some (vR r)) hd hf hk h
theorem G_retv (hd : decode μ.2.1 pc = .ok (.return_, 1)) (hf : rfit μ.2.2.2.1 none) (hk : kc = μ.2.2.2.2.cells ∧ ks ≤ μ.2.2.2.2.slots) (h : Ret none w) : G Γ μ Ret kc ks pc L [] w := G_ret none hd hf hk h
theorem G_mmax {idx : Nat} {x y : Int} (hd : decode μ.2.1 pc = .ok (.invokestatic idx, 3)) (h1 : Cond.methodLink μ.1.cls idx Lib.Math.max.name ∈ TB) (h2 : Cond.static Lib.Math.max.name ∈ TB) (h3 : Cond.initialized "java/lang/Math" ∈ TB) (h4 : Cond.code Lib.Math.max.name Lib.Math.max.code 2 (some .int) ∈ TB) (hx : sm x) (hy : sm y) (hr : 1 ≤ μ.2.2.2.2.frames ∧ (st.map fun v => v.category).sum + 13 ≤ μ.2.2.2.2.locals) (hk : kc ≤ μ.2.2.2.2.cells ∧ ks ≤ μ.2.2.2.2.slots) (k : G Γ μ Ret kc ks (pc + 3) L (vI (max x y) :: st) w) : G Γ μ Ret kc ks pc L (vI y :: vI x :: st) w :=
  fun p e R s m args below meth c H locs Q ls C r P S o => va_mmax C.1 C.2.1 (C.2.2.1.trans o.2.1.symm) C.2.2.2.1 (C.2.2.2.2.1 _ h1) (C.2.2.2.2.1 _ h2) (C.2.2.2.2.1 _ h3) (C.2.2.2.2.1 _ h4) (by rw [C.2.2.2.2.2.1]; exact hr.1) (by rw [C.2.2.2.2.2.1, cat_sum]; exact hr.2) (by rw [C.2.2.2.2.2.1]; exact hk.1) (by rw [C.2.2.2.2.2.1]; exact hk.2) hd (by
    have e1 : (if iI x < iI y then iI y else iI x) = iI (max x y) := by
      by_cases h : x < y
      · rw [if_pos ((iI_lt hx hy).mpr h), show max x y = y by omega]
      · rw [if_neg (fun q => h ((iI_lt hx hy).mp q)), show max x y = x by omega]
    rw [e1]
    exact k p e R s m args below meth c H locs Q ls C r P S o)
theorem G_mmin {idx : Nat} {x y : Int} (hd : decode μ.2.1 pc = .ok (.invokestatic idx, 3)) (h1 : Cond.methodLink μ.1.cls idx Lib.Math.min.name ∈ TB) (h2 : Cond.static Lib.Math.min.name ∈ TB) (h3 : Cond.initialized "java/lang/Math" ∈ TB) (h4 : Cond.code Lib.Math.min.name Lib.Math.min.code 2 (some .int) ∈ TB) (hx : sm x) (hy : sm y) (hr : 1 ≤ μ.2.2.2.2.frames ∧ (st.map fun v => v.category).sum + 13 ≤ μ.2.2.2.2.locals) (hk : kc ≤ μ.2.2.2.2.cells ∧ ks ≤ μ.2.2.2.2.slots) (k : G Γ μ Ret kc ks (pc + 3) L (vI (min x y) :: st) w) : G Γ μ Ret kc ks pc L (vI y :: vI x :: st) w :=
  fun p e R s m args below meth c H locs Q ls C r P S o => va_mmin C.1 C.2.1 (C.2.2.1.trans o.2.1.symm) C.2.2.2.1 (C.2.2.2.2.1 _ h1) (C.2.2.2.2.1 _ h2) (C.2.2.2.2.1 _ h3) (C.2.2.2.2.1 _ h4) (by rw [C.2.2.2.2.2.1]; exact hr.1) (by rw [C.2.2.2.2.2.1, cat_sum]; exact hr.2) (by rw [C.2.2.2.2.2.1]; exact hk.1) (by rw [C.2.2.2.2.2.1]; exact hk.2) hd (by
    have e1 : (if iI y < iI x then iI y else iI x) = iI (min x y) := by
      by_cases h : y < x
      · rw [if_pos ((iI_lt hy hx).mpr h), show min x y = y by omega]
      · rw [if_neg (fun q => h ((iI_lt hy hx).mp q)), show min x y = x by omega]
    rw [e1]
    exact k p e R s m args below meth c H locs Q ls C r P S o)
theorem wI_skip {w : Wd} {r a : Nat} {k i v : Int} (h : i ≠ k) : wI (stI w r k v) a i = wI w a i := by rw [wI_stI, if_neg (fun q => h q.2)]
theorem wI_hit {w : Wd} {r : Nat} {k v : Int} : wI (stI w r k v) r k = v := by rw [wI_stI, if_pos ⟨rfl, rfl⟩]
end
