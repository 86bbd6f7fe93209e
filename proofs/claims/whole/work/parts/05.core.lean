/-! ===== the layer: all objects at once, ints as Int ===== -/
section
abbrev vI (z : Int) : Value := .int (iI z)
abbrev vR (r : Nat) : Value := .ref r
abbrev vL (z : Int) : Value := .long (lI z)
theorem iI_add (a b : Int) : iI a + iI b = iI (a + b) := (Int32.ofInt_add a b).symm
theorem iI_sub (a b : Int) : iI a - iI b = iI (a - b) := (Int32.ofInt_sub a b).symm
theorem iI_mul (a b : Int) : iI a * iI b = iI (a * b) := (Int32.ofInt_mul a b).symm
abbrev sm (z : Int) : Prop := -2147483648 ≤ z ∧ z < 2147483648
theorem iI_toInt {z : Int} (h : sm z) : (iI z).toInt = z := Int32.toInt_ofInt_of_le (by have := h.1; omega) (by have := h.2; omega)
theorem iI_of (x : Int32) : iI x.toInt = x := Int32.ofInt_toInt x
theorem sm_of (x : Int32) : sm x.toInt := ⟨by have := x.le_toInt; omega, by have := x.toInt_lt; omega⟩
theorem iI_lt {a b : Int} (ha : sm a) (hb : sm b) : iI a < iI b ↔ a < b := by rw [Int32.lt_iff_toInt_lt, iI_toInt ha, iI_toInt hb]
theorem iI_le {a b : Int} (ha : sm a) (hb : sm b) : iI a ≤ iI b ↔ a ≤ b := by rw [Int32.le_iff_toInt_le, iI_toInt ha, iI_toInt hb]
theorem iI_eq {a b : Int} (ha : sm a) (hb : sm b) : iI a = iI b ↔ a = b := by rw [← Int32.toInt_inj, iI_toInt ha, iI_toInt hb]
theorem iI_0 : iI 0 = 0 := by decide +kernel
theorem iI_nat {z : Int} (h : sm z) : (iI z).toNatClampNeg = z.toNat := Int32.toNatClampNeg_ofInt_of_le (by have := h.1; omega) (by have := h.2; omega)
theorem iI_div {a b : Int} (ha : sm a) (hb : sm b) (h1 : b ≠ -1) : iI a / iI b = iI (a.tdiv b) := by
  apply Int32.toInt_inj.mp
  have hq : sm (a.tdiv b) := by
    have h2 : (a.tdiv b).natAbs ≤ a.natAbs := by rw [Int.natAbs_tdiv]; exact Nat.div_le_self _ _
    have := ha.1; have := ha.2
    rcases Int.lt_or_le a (-2147483647) with q | q
    · have e : a = -2147483648 := by omega
      subst e
      by_cases hb0 : b = 0
      · subst hb0; simp [sm]
      · by_cases hb1 : b = 1
        · subst hb1; simp [sm]
        · have h3 : (Int.tdiv (-2147483648) b).natAbs ≤ 1073741824 := by
            rw [Int.natAbs_tdiv]
            have : 2 ≤ b.natAbs := by omega
            calc (-2147483648 : Int).natAbs / b.natAbs ≤ (-2147483648 : Int).natAbs / 2 := Nat.div_le_div_left this (by omega)
              _ = 1073741824 := by decide
          constructor <;> omega
    · constructor <;> omega
  rw [Int32.toInt_div_of_ne_right _ _ (fun h => h1 ?_), iI_toInt ha, iI_toInt hb, iI_toInt hq]
  have := congrArg Int32.toInt h
  rw [iI_toInt hb] at this
  exact this
theorem iI_rem {a b : Int} (ha : sm a) (hb : sm b) : iI a % iI b = iI (a.tmod b) := by
  apply Int32.toInt_inj.mp
  have hq : sm (a.tmod b) := by
    have h2 : (a.tmod b).natAbs ≤ a.natAbs := by
      rw [Int.natAbs_tmod]; exact Nat.mod_le _ _
    have := ha.1; have := ha.2
    have h3 : 0 ≤ a → 0 ≤ a.tmod b := fun h => Int.tmod_nonneg b h
    have h4 : a ≤ 0 → a.tmod b ≤ 0 := fun h => by
      have q := Int.tmod_nonneg b (show 0 ≤ -a by omega)
      rw [Int.neg_tmod] at q
      omega
    constructor <;> omega
  rw [Int32.toInt_mod, iI_toInt ha, iI_toInt hb, iI_toInt hq]
theorem iI_in {z : Int} {n : Nat} (h : 0 ≤ z ∧ z < (n : Int)) (hn : n < 2147483648) : vp_in (iI z) n := by
  rw [vp_in_iff, iI_toInt ⟨by omega, by omega⟩]
  exact h
/-- what the machine's own operations make, as whole numbers -/
def zand (a b : Int) : Int := (iI a &&& iI b).toInt
def zor (a b : Int) : Int := (iI a ||| iI b).toInt
def zxor (a b : Int) : Int := (iI a ^^^ iI b).toInt
def zshl (a b : Int) : Int := (iI a <<< (iI b &&& 31)).toInt
def zshr (a b : Int) : Int := (iI a >>> (iI b &&& 31)).toInt
/-- a place's form: an array (0 ints, 1 chars, 2 carpets) with its length, or an object's class -/
abbrev Sh : Type := (Nat × Nat) ⊕ Nat
abbrev Wd : Type := Nat × (Nat → Int → Int) × (Nat → Int → Value)
abbrev Gm : Type := Launch × va_G × (Nat → ClassId) × Nat × Nat × Nat × (Nat → Int32)
/-- a method: its name, code, number of slots, answer's type, room -/
abbrev Mu : Type := MethodName × ByteArray × Nat × Option FieldType × Room
abbrev clsL : List vw_C := [(RX0, TX0, 8), (RX1, TX1, 8), (RX2, TX2, 3), (RX3, TX3, 13), (RX4, TX4, 3), (RX5, TX5, 3), (RX6, TX6, 11), (RX7, TX7, 27)]
abbrev tysL (Γ : Gm) : List (ClassId × FieldType) := [(Γ.2.2.1 0, .int), (Γ.2.2.1 1, .char), (Γ.2.2.1 2, .object RX0)]
def ad (Γ : Gm) (r : Nat) : Nat := if r = 999 then Γ.2.2.2.2.1 else if r = 998 then Γ.2.2.1 3 else if r = 997 then Γ.2.2.1 4 else Γ.2.2.2.1 + r
def cv (Γ : Gm) (v : Value) : Value := match v with
  | .ref r => .ref (ad Γ r)
  | v => v
def cvO (Γ : Gm) (v : Value) : Option Nat := match v with
  | .ref r => some (ad Γ r)
  | _ => none
def ksO : Nat → List Bool := fun ci => match ci with
  | 0 => [true, true, false, false, false, false, false, false]
  | 1 => [true, true, true, false, false, false, false, false]
  | 2 => [false, false, false]
  | 3 => [true, true, true, true, true, false, false, false, false, false, false, false, false]
  | 4 => [true, false, false]
  | 5 => [true, true, false]
  | 6 => [true, false, true, true, true, true, true, true, true, true, true]
  | _ => [false, true, false, false, false, false, true, true, true, false, false, true, true, true, true, true, true, false, true, false, false, true, true, true, false, false, false]
def nO : Nat → Nat := fun ci => (ksO ci).length
def obE (Γ : Gm) (ks : List Bool) (f : Int → Int) (g : Int → Value) (k : Nat) : Value := if ks.getD k false then cv Γ (g k) else vI (f k)
def cellE (Γ : Gm) (sh : Sh) (f : Int → Int) (g : Int → Value) : va_E := match sh with
  | .inl (2, n) => .inl (Γ.2.2.1 2, n, .inr (.inr (.inr (.inr (fun k => cvO Γ (g k))))))
  | .inl (t, n) => .inl (Γ.2.2.1 t, n, .inl (fun k => iI (f k)))
  | .inr ci => .inr (ci, (List.range (ksO ci).length).map (obE Γ (ksO ci) f g))
def shp : List Sh := [.inr 6, .inl (1, 200), .inr 3, .inl (0, 12), .inl (0, 12), .inl (0, 12), .inl (0, 12), .inl (0, 3), .inr 3, .inl (0, 12), .inl (0, 12), .inl (0, 12), .inl (0, 12), .inl (0, 3), .inr 0, .inl (0, 12), .inl (0, 4), .inr 0, .inl (0, 12), .inl (0, 4), .inr 4, .inl (2, 8), .inr 0, .inl (0, 12), .inl (0, 4), .inr 0, .inl (0, 12), .inl (0, 4), .inr 0, .inl (0, 12), .inl (0, 4), .inr 0, .inl (0, 12), .inl (0, 4), .inr 0, .inl (0, 12), .inl (0, 4), .inr 0, .inl (0, 12), .inl (0, 4), .inr 0, .inl (0, 12), .inl (0, 4), .inr 0, .inl (0, 12), .inl (0, 4), .inr 4, .inl (2, 2), .inr 0, .inl (0, 12), .inl (0, 4), .inr 0, .inl (0, 12), .inl (0, 4), .inr 5, .inl (0, 6), .inl (0, 6), .inr 1, .inl (0, 13), .inl (0, 13), .inl (0, 13), .inr 2, .inl (1, 84), .inr 7, .inl (0, 200), .inl (0, 36), .inl (0, 12), .inl (0, 6), .inl (0, 36), .inl (0, 12), .inl (0, 6), .inl (0, 32), .inl (0, 32), .inl (0, 256), .inl (0, 64), .inl (0, 12), .inl (0, 12), .inl (0, 12)]
def sh (w : Wd) (r : Nat) : Option Sh := if r < w.1 then shp[r]? else none
def wI (w : Wd) (r : Nat) (k : Int) : Int := w.2.1 r k
def wR (w : Wd) (r : Nat) (k : Int) : Value := w.2.2 r k
def stI (w : Wd) (r : Nat) (k : Int) (v : Int) : Wd := (w.1, (fun a i => if a = r ∧ i = k then v else w.2.1 a i), w.2.2)
def stR (w : Wd) (r : Nat) (k : Int) (v : Value) : Wd := (w.1, w.2.1, fun a i => if a = r ∧ i = k then v else w.2.2 a i)
theorem sh_stI (w : Wd) (r : Nat) (k v : Int) (a : Nat) : sh (stI w r k v) a = sh w a := rfl
theorem sh_stR (w : Wd) (r : Nat) (k : Int) (v : Value) (a : Nat) : sh (stR w r k v) a = sh w a := rfl
theorem wI_stI (w : Wd) (r : Nat) (k v : Int) (a : Nat) (i : Int) : wI (stI w r k v) a i = if a = r ∧ i = k then v else wI w a i := rfl
theorem wR_stI (w : Wd) (r : Nat) (k v : Int) (a : Nat) (i : Int) : wR (stI w r k v) a i = wR w a i := rfl
theorem wI_stR (w : Wd) (r : Nat) (k : Int) (v : Value) (a : Nat) (i : Int) : wI (stR w r k v) a i = wI w a i := rfl
theorem wR_stR (w : Wd) (r : Nat) (k : Int) (v : Value) (a : Nat) (i : Int) : wR (stR w r k v) a i = if a = r ∧ i = k then v else wR w a i := rfl
def wsE (Γ : Gm) (w : Wd) (r : Nat) : Nat × va_E := (Γ.2.2.2.1 + r, cellE Γ (shp.getD r (.inr 8)) (w.2.1 r) (w.2.2 r))
def wsW (Γ : Gm) (w : Wd) : va_W := (List.range w.1).map (wsE Γ w)
theorem wsW_at (Γ : Gm) {w : Wd} {r : Nat} {x : Sh} (h : sh w r = some x) : (wsW Γ w)[r]? = some (Γ.2.2.2.1 + r, cellE Γ x (w.2.1 r) (w.2.2 r)) := by
  unfold sh at h
  split at h
  · rename_i hr
    simp only [wsW, List.getElem?_map, List.getElem?_range hr, Option.map_some, wsE]
    rw [List.getD_eq_getElem?_getD, h]
    rfl
  · cases h
theorem wsW_len (Γ : Gm) (w : Wd) : (wsW Γ w).length = w.1 := by simp [wsW]
def Ab (Γ : Gm) : Nat → Prop := fun q => Γ.2.2.2.1 ≤ q
theorem wsW_D (Γ : Gm) (w : Wd) : va_D (Ab Γ) (wsW Γ w) := by
  have key : ∀ (k : Nat) (q : Nat × va_E), (wsW Γ w)[k]? = some q → q.1 = Γ.2.2.2.1 + k := by
    intro k q h
    simp only [wsW, List.getElem?_map, Option.map_eq_some_iff] at h
    obtain ⟨a, h1, rfl⟩ := h
    obtain ⟨h2, h3⟩ := List.getElem?_eq_some_iff.mp h1
    simp at h3
    subst h3
    rfl
  refine ⟨fun i j p q hi hj e => ?_, fun k q h => ?_⟩
  · have a := key i p hi
    have b := key j q hj
    omega
  · show Γ.2.2.2.1 ≤ q.1
    rw [key k q h]
    omega
/-- the picture of a heap -/
def PH (Γ : Gm) (w : Wd) (H : Heap) : Prop := va_P Γ.2.1 clsL (wsW Γ w) H
/-- the text of the class's first room: its letters; the words are places 998 (the text) and 997 (its letters) -/
def zTx : String := "s11,3,2;s11,7,1;s12,2,8;s9,1,3;s9,5,0;s11,0,6;s11,4,4;r3,50;o2;h12;k1,3;d3;d5;d8;d2;"
def zBy : List Int32 := [115, 49, 49, 44, 51, 44, 50, 59, 115, 49, 49, 44, 55, 44, 49, 59, 115, 49, 50, 44, 50, 44, 56, 59, 115, 57, 44, 49, 44, 51, 59, 115, 57, 44, 53, 44, 48, 59, 115, 49, 49, 44, 48, 44, 54, 59, 115, 49, 49, 44, 52, 44, 52, 59, 114, 51, 44, 53, 48, 59, 111, 50, 59, 104, 49, 50, 59, 107, 49, 44, 51, 59, 100, 51, 59, 100, 53, 59, 100, 56, 59, 100, 50, 59]
def Str (Γ : Gm) (U : State) : Prop := vk_R RX6 66 zTx (Γ.2.2.1 3) U ∧ vk_S 1 [84] [zBy] (fun _ => Γ.2.2.1 3) (fun _ => Γ.2.2.1 4) (Ab Γ) U U.heap ∧ va_Z "java/lang/String" "COMPACT_STRINGS" "Z" (.int 1) (Ab Γ) U U.heap
def PK (Γ : Gm) (U : State) : Prop := va_K Γ.2.1 clsL (tysL Γ) U ∧ va_AO RX0 U ∧ PN U ∧ Str Γ U
theorem Str.warm {Γ : Gm} {u U : State} (hW : u.WarmedH U.vm) (hq : ∀ a : Nat, a < u.heap.size → ¬ Ab Γ a → U.heap[a]? = u.heap[a]?) (h : Str Γ u) : Str Γ U := ⟨vk_R.warm hW h.1, (vk_S.moved hW.alike h.2.1).kept hq, (va_Z.moved hW.alike h.2.2).kept hq⟩
theorem Str.same {Γ : Gm} {u U : State} (hv : u.vm = U.vm) (hh : U.heap = u.heap) (h : Str Γ u) : Str Γ U := by
  refine ⟨vk_R.same hv.symm h.1, ?_, ?_⟩
  · rw [hh]; exact vk_S.moved (hv ▸ Vm.Alike.refl u.vm) h.2.1
  · rw [hh]; exact va_Z.moved (hv ▸ Vm.Alike.refl u.vm) h.2.2
theorem PK.warm {Γ : Gm} {u U : State} (hW : u.WarmedH U.vm) (hq : ∀ a : Nat, a < u.heap.size → ¬ Ab Γ a → U.heap[a]? = u.heap[a]?) (h : PK Γ u) : PK Γ U := ⟨va_K.moved hW.alike h.1, va_AO.moved hW.alike h.2.1, PN.warm hW h.2.2.1, Str.warm hW hq h.2.2.2⟩
theorem PK.same {Γ : Gm} {u U : State} (hv : u.vm = U.vm) (hh : U.heap = u.heap) (h : PK Γ u) : PK Γ U := ⟨va_K.moved (hv ▸ Vm.Alike.refl u.vm) h.1, va_AO.moved (hv ▸ Vm.Alike.refl u.vm) h.2.1, PN.same hv h.2.2.1, Str.same hv hh h.2.2.2⟩
def PU (Γ : Gm) (w : Wd) (U : State) : Prop := PH Γ w U.heap ∧ PK Γ U
/-- what was written, and how much was made -/
def SS (Γ : Gm) (kc n : Nat) (s : State) (H : Heap) (locs : List Loc) : Prop := va_S (Ab Γ) s.heap H locs ∧ s.heap.size + kc = Γ.2.2.2.1 + n ∧ Γ.2.2.2.1 ≤ s.heap.size
def wsM (μ : Mu) : List Cond := .code μ.1 μ.2.1 μ.2.2.1 μ.2.2.2.1 :: TB
theorem tb_goodM {μ : Mu} (h : Cond.code μ.1 μ.2.1 μ.2.2.1 μ.2.2.2.1 ∈ TB) : GoodIn TB (wsM μ) := fun w hw => by
  rcases List.mem_cons.mp hw with rfl | h2
  · exact tb_good _ h
  · exact tb_good _ h2
/-- the frame's slots -/
def LO (Γ : Gm) (n : Nat) (L : List (Option Value)) (ls : Array Slot) : Prop := L.length = n ∧ ls.size = n ∧ lv_wf ls ∧ ∀ (k : Nat) (v : Value), L[k]? = some (some v) → ls[k]? = some (.val (cv Γ v))
def lvF (Γ : Gm) (L : List (Option Value)) : List (Nat × Value) := (List.range L.length).filterMap fun k => (L[k]?.join).map fun v => (k, cv Γ v)
theorem lvF_mem {Γ : Gm} {L : List (Option Value)} {k : Nat} {v : Value} (h : L[k]? = some (some v)) : (k, cv Γ v) ∈ lvF Γ L := by
  refine List.mem_filterMap.mpr ⟨k, ?_, ?_⟩
  · exact List.mem_range.mpr (List.getElem?_eq_some_iff.mp h).1
  · simp [h]
theorem LO.has {Γ : Gm} {n : Nat} {L : List (Option Value)} {ls : Array Slot} (h : LO Γ n L ls) : lv_has ls n (lvF Γ L) := by
  refine ⟨h.2.1, h.2.2.1, fun q hq => ?_⟩
  obtain ⟨k, -, hk⟩ := List.mem_filterMap.mp hq
  simp only [Option.map_eq_some_iff] at hk
  obtain ⟨v, hv, rfl⟩ := hk
  exact h.2.2.2 k v (by
    cases hx : L[k]? with
    | none => rw [hx] at hv; cases hv
    | some o => rw [hx] at hv; simp only [Option.join_some] at hv; rw [hv])
/-- no long just ahead of slot i -/
def nl1 (L : List (Option Value)) (i : Nat) : Bool := match i with
  | 0 => true
  | j + 1 => match L[j]? with
    | some (some v) => v.category == 1
    | _ => true
theorem cv_cat (Γ : Gm) (v : Value) : (cv Γ v).category = v.category := by cases v <;> rfl
theorem LO.set1 {Γ : Gm} {n i : Nat} {L : List (Option Value)} {ls ls' : Array Slot} {v : Value} (h : LO Γ n L ls) (hi : i < n) (hn : nl1 L i = true)
    (h' : lv_has ls' n ((i, cv Γ v) :: (lvF Γ L).filter (fun q => !(q.1 == i) && !(q.1 + 1 == i && q.2.category == 2)))) : LO Γ n (L.set i (some v)) ls' := by
  refine ⟨by simpa using h.1, h'.1, h'.2.1, fun k x hk => ?_⟩
  by_cases e : k = i
  · subst e
    rw [List.getElem?_set_self (by rw [h.1]; exact hi)] at hk
    cases hk
    exact h'.2.2 _ List.mem_cons_self
  · rw [List.getElem?_set_ne (fun q => e q.symm)] at hk
    refine h'.2.2 (k, cv Γ x) (List.mem_cons_of_mem _ (List.mem_filter.mpr ⟨lvF_mem hk, ?_⟩))
    simp only [Bool.and_eq_true, Bool.not_eq_true', beq_eq_false_iff_ne, ne_eq, Bool.and_eq_false_iff]
    refine ⟨e, ?_⟩
    by_cases e2 : k + 1 = i
    · right
      subst e2
      simp only [nl1, hk, beq_iff_eq] at hn
      rw [cv_cat, hn]
      decide
    · left; exact e2
theorem LO.set2 {Γ : Gm} {n i : Nat} {L : List (Option Value)} {ls ls' : Array Slot} {v : Value} (h : LO Γ n L ls) (hi : i + 1 < n) (hn : nl1 L i = true)
    (h' : lv_has ls' n ((i, cv Γ v) :: (lvF Γ L).filter (fun q => !(q.1 == i) && (!(q.1 == i + 1) && !(q.1 + 1 == i && q.2.category == 2))))) : LO Γ n ((L.set i (some v)).set (i + 1) none) ls' := by
  refine ⟨by simpa using h.1, h'.1, h'.2.1, fun k x hk => ?_⟩
  by_cases e1 : k = i + 1
  · subst e1
    rw [List.getElem?_set_self (by rw [List.length_set, h.1]; exact hi)] at hk
    cases hk
  · rw [List.getElem?_set_ne (fun q => e1 q.symm)] at hk
    by_cases e : k = i
    · subst e
      rw [List.getElem?_set_self (by rw [h.1]; omega)] at hk
      cases hk
      exact h'.2.2 _ List.mem_cons_self
    · rw [List.getElem?_set_ne (fun q => e q.symm)] at hk
      refine h'.2.2 (k, cv Γ x) (List.mem_cons_of_mem _ (List.mem_filter.mpr ⟨lvF_mem hk, ?_⟩))
      simp only [Bool.and_eq_true, Bool.not_eq_true', beq_eq_false_iff_ne, ne_eq, Bool.and_eq_false_iff]
      refine ⟨e, e1, ?_⟩
      by_cases e2 : k + 1 = i
      · right
        subst e2
        simp only [nl1, hk, beq_iff_eq] at hn
        rw [cv_cat, hn]
        decide
      · left; exact e2
end
section
/-- what holds of the machine while a method runs -/
def Cx (Γ : Gm) (μ : Mu) (p : Program) (R : Room) (s : State) (m : MethodId) (args : Array Value) (meth : Method) (c : Code) : Prop :=
  p.tables.exec = Jvm.exec ∧ c.code = μ.2.1 ∧ c.maxLocals = μ.2.2.1 ∧ s.vm.findClass μ.1.cls = some m.cls ∧ (∀ w ∈ TB, w.before args s = true) ∧ R = μ.2.2.2.2 ∧ (μ.1.cls ≠ RL → meth.name = μ.1.name) ∧ PK Γ s ∧ (μ.1.cls = RL → va_X Γ.2.2.2.2.1 Γ.2.2.2.2.2.1 Γ.2.2.2.2.2.2 s s.heap ∧ Γ.2.2.2.2.1 < s.heap.size ∧ ¬ Ab Γ Γ.2.2.2.2.1)
/-- what an answer must be for its type -/
def rfit (ret : Option FieldType) (v : Option Value) : Prop := match ret, v with
  | none, none => True
  | some .int, some (.int _) => True
  | some .boolean, some (.int x) => x = iI 0 ∨ x = iI 1
  | some .byte, some (.int x) => x = iI 0
  | some (.object _), some (.ref _) => True
  | some (.object _), some .null => True
  | some (.array _), some (.ref _) => True
  | _, _ => False
def isRet (b : ByteArray) (pc : Nat) (v : Option Value) : Prop := match v with
  | none => decode b pc = .ok (.return_, 1)
  | some (.int _) => decode b pc = .ok (.ireturn, 1)
  | some (.ref _) => decode b pc = .ok (.areturn, 1)
  | some .null => decode b pc = .ok (.areturn, 1)
  | _ => False
/-- the method's end is good for what stands behind it -/
def RO (Γ : Gm) (μ : Mu) (Ret : Option Value → Wd → Prop) (p : Program) (e : Env) (R : Room) (s : State) (m : MethodId) (args : Array Value) (below : List Frame) (meth : Method) (c : Code) (Q : State → Prop) : Prop :=
  ∀ (v : Option Value) (w : Wd) (H : Heap) (locs : List Loc) (kc ks pc : Nat) (ls : Array Slot), Ret v w → rfit μ.2.2.2.1 v → (kc = R.cells ∨ μ.1.cls = RL ∧ kc ≤ R.cells) → ks ≤ R.slots → PH Γ w H → SS Γ kc w.1 s H locs → isRet μ.2.1 pc v →
    W p Γ.1 e R s m args below meth c H locs kc ks Q (F0 m pc ls (v.toList.map (cv Γ)))
def G (Γ : Gm) (μ : Mu) (Ret : Option Value → Wd → Prop) (kc ks pc : Nat) (L : List (Option Value)) (st : List Value) (w : Wd) : Prop :=
  ∀ (p : Program) (e : Env) (R : Room) (s : State) (m : MethodId) (args : Array Value) (below : List Frame) (meth : Method) (c : Code) (H : Heap) (locs : List Loc) (Q : State → Prop) (ls : Array Slot),
    Cx Γ μ p R s m args meth c → RO Γ μ Ret p e R s m args below meth c Q → PH Γ w H → SS Γ kc w.1 s H locs → LO Γ μ.2.2.1 L ls →
    W p Γ.1 e R s m args below meth c H locs kc ks Q (F0 m pc ls (st.map (cv Γ)))
variable {Γ : Gm} {μ : Mu} {Ret : Option Value → Wd → Prop} {kc ks pc : Nat} {L : List (Option Value)} {st : List Value} {w : Wd}
theorem G_const {n : Int} (hd : decode μ.2.1 pc = .ok (.iconst n, 1)) (k : G Γ μ Ret kc ks (pc + 1) L (vI n :: st) w) : G Γ μ Ret kc ks pc L st w :=
  fun p e R s m args below meth c H locs Q ls C r P S o => lv_iconst (v := iI n) C.1 C.2.1 hd rfl (k p e R s m args below meth c H locs Q ls C r P S o)
theorem G_bipush {n : Int} (hd : decode μ.2.1 pc = .ok (.bipush n, 2)) (hn : (Int8.ofInt n).toInt32 = iI n) (k : G Γ μ Ret kc ks (pc + 2) L (vI n :: st) w) : G Γ μ Ret kc ks pc L st w :=
  fun p e R s m args below meth c H locs Q ls C r P S o => lv_bipush (v := iI n) C.1 C.2.1 hd hn (k p e R s m args below meth c H locs Q ls C r P S o)
theorem G_sipush {n : Int} (hd : decode μ.2.1 pc = .ok (.sipush n, 3)) (hn : (Int16.ofInt n).toInt32 = iI n) (k : G Γ μ Ret kc ks (pc + 3) L (vI n :: st) w) : G Γ μ Ret kc ks pc L st w :=
  fun p e R s m args below meth c H locs Q ls C r P S o => lv_sipush (v := iI n) C.1 C.2.1 hd hn (k p e R s m args below meth c H locs Q ls C r P S o)
theorem G_ldc {n : Int} {i : Nat} (hd : decode μ.2.1 pc = .ok (.ldc i, 2)) (hc : Cond.constant μ.1.cls i (iI n) ∈ TB) (k : G Γ μ Ret kc ks (pc + 2) L (vI n :: st) w) : G Γ μ Ret kc ks pc L st w :=
  fun p e R s m args below meth c H locs Q ls C r P S o => lv_ldc C.1 C.2.1 C.2.2.2.1 (C.2.2.2.2.1 _ hc) hd (k p e R s m args below meth c H locs Q ls C r P S o)
theorem G_iload {i : Nat} {z : Int} (hd : decode μ.2.1 pc = .ok (.iload i, 2)) (hl : L[i]? = some (some (vI z))) (k : G Γ μ Ret kc ks (pc + 2) L (vI z :: st) w) : G Γ μ Ret kc ks pc L st w :=
  fun p e R s m args below meth c H locs Q ls C r P S o => lv_iload C.1 C.2.1 hd (o.2.2.2 i _ hl) (k p e R s m args below meth c H locs Q ls C r P S o)
theorem G_iload_n {i : Fin 4} {z : Int} (hd : decode μ.2.1 pc = .ok (.iload_n i, 1)) (hl : L[i.val]? = some (some (vI z))) (k : G Γ μ Ret kc ks (pc + 1) L (vI z :: st) w) : G Γ μ Ret kc ks pc L st w :=
  fun p e R s m args below meth c H locs Q ls C r P S o => lv_iload_n C.1 C.2.1 hd rfl (o.2.2.2 i.val _ hl) (k p e R s m args below meth c H locs Q ls C r P S o)
theorem G_lload {i : Nat} {z : Int} (hd : decode μ.2.1 pc = .ok (.lload i, 2)) (hl : L[i]? = some (some (vL z))) (k : G Γ μ Ret kc ks (pc + 2) L (vL z :: st) w) : G Γ μ Ret kc ks pc L st w :=
  fun p e R s m args below meth c H locs Q ls C r P S o => lv_lload C.1 C.2.1 hd (o.2.2.2 i _ hl) (k p e R s m args below meth c H locs Q ls C r P S o)
theorem G_lload_n {i : Fin 4} {z : Int} (hd : decode μ.2.1 pc = .ok (.lload_n i, 1)) (hl : L[i.val]? = some (some (vL z))) (k : G Γ μ Ret kc ks (pc + 1) L (vL z :: st) w) : G Γ μ Ret kc ks pc L st w :=
  fun p e R s m args below meth c H locs Q ls C r P S o => lv_lload_n C.1 C.2.1 hd rfl (o.2.2.2 i.val _ hl) (k p e R s m args below meth c H locs Q ls C r P S o)
theorem G_aload {i : Nat} {x : Nat} (hd : decode μ.2.1 pc = .ok (.aload i, 2)) (hl : L[i]? = some (some (vR x))) (k : G Γ μ Ret kc ks (pc + 2) L (vR x :: st) w) : G Γ μ Ret kc ks pc L st w :=
  fun p e R s m args below meth c H locs Q ls C r P S o => lv_aload C.1 C.2.1 hd (o.2.2.2 i _ hl) (k p e R s m args below meth c H locs Q ls C r P S o)
theorem G_aload_n {i : Fin 4} {x : Nat} (hd : decode μ.2.1 pc = .ok (.aload_n i, 1)) (hl : L[i.val]? = some (some (vR x))) (k : G Γ μ Ret kc ks (pc + 1) L (vR x :: st) w) : G Γ μ Ret kc ks pc L st w :=
  fun p e R s m args below meth c H locs Q ls C r P S o => lv_aload_n C.1 C.2.1 hd rfl (o.2.2.2 i.val _ hl) (k p e R s m args below meth c H locs Q ls C r P S o)
theorem G_null (hd : decode μ.2.1 pc = .ok (.aconst_null, 1)) (k : G Γ μ Ret kc ks (pc + 1) L (.null :: st) w) : G Γ μ Ret kc ks pc L st w :=
  fun p e R s m args below meth c H locs Q ls C r P S o => lv_null C.1 C.2.1 hd (k p e R s m args below meth c H locs Q ls C r P S o)
theorem G_istore {i : Nat} {z : Int} (hd : decode μ.2.1 pc = .ok (.istore i, 2)) (hi : i < μ.2.2.1) (hn : nl1 L i = true) (k : G Γ μ Ret kc ks (pc + 2) (L.set i (some (vI z))) st w) : G Γ μ Ret kc ks pc L (vI z :: st) w :=
  fun p e R s m args below meth c H locs Q ls C r P S o => lv_istore C.1 C.2.1 hd o.has hi rfl (fun ls' h' => k p e R s m args below meth c H locs Q ls' C r P S (o.set1 hi hn h'))
theorem G_istore_n {i : Fin 4} {z : Int} (hd : decode μ.2.1 pc = .ok (.istore_n i, 1)) (hi : i.val < μ.2.2.1) (hn : nl1 L i.val = true) (k : G Γ μ Ret kc ks (pc + 1) (L.set i.val (some (vI z))) st w) : G Γ μ Ret kc ks pc L (vI z :: st) w :=
  fun p e R s m args below meth c H locs Q ls C r P S o => lv_istore_n C.1 C.2.1 hd rfl o.has hi rfl (fun ls' h' => k p e R s m args below meth c H locs Q ls' C r P S (o.set1 hi hn h'))
theorem G_astore_n {i : Fin 4} {x : Nat} (hd : decode μ.2.1 pc = .ok (.astore_n i, 1)) (hi : i.val < μ.2.2.1) (hn : nl1 L i.val = true) (k : G Γ μ Ret kc ks (pc + 1) (L.set i.val (some (vR x))) st w) : G Γ μ Ret kc ks pc L (vR x :: st) w :=
  fun p e R s m args below meth c H locs Q ls C r P S o => lv_astore_n C.1 C.2.1 hd rfl o.has hi rfl (fun ls' h' => k p e R s m args below meth c H locs Q ls' C r P S (o.set1 hi hn h'))
theorem G_astore_nN {i : Fin 4} (hd : decode μ.2.1 pc = .ok (.astore_n i, 1)) (hi : i.val < μ.2.2.1) (hn : nl1 L i.val = true) (k : G Γ μ Ret kc ks (pc + 1) (L.set i.val (some .null)) st w) : G Γ μ Ret kc ks pc L (.null :: st) w :=
  fun p e R s m args below meth c H locs Q ls C r P S o => lv_astore_nN C.1 C.2.1 hd rfl o.has hi rfl (fun ls' h' => k p e R s m args below meth c H locs Q ls' C r P S (o.set1 hi hn h'))
theorem G_lstore {i : Nat} {z : Int} (hd : decode μ.2.1 pc = .ok (.lstore i, 2)) (hi : i + 1 < μ.2.2.1) (hn : nl1 L i = true) (k : G Γ μ Ret kc ks (pc + 2) ((L.set i (some (vL z))).set (i + 1) none) st w) : G Γ μ Ret kc ks pc L (vL z :: st) w :=
  fun p e R s m args below meth c H locs Q ls C r P S o => lv_lstore C.1 C.2.1 hd o.has hi rfl (fun ls' h' => k p e R s m args below meth c H locs Q ls' C r P S (o.set2 hi hn h'))
theorem G_lstore_n {i : Fin 4} {z : Int} (hd : decode μ.2.1 pc = .ok (.lstore_n i, 1)) (hi : i.val + 1 < μ.2.2.1) (hn : nl1 L i.val = true) (k : G Γ μ Ret kc ks (pc + 1) ((L.set i.val (some (vL z))).set (i.val + 1) none) st w) : G Γ μ Ret kc ks pc L (vL z :: st) w :=
  fun p e R s m args below meth c H locs Q ls C r P S o => lv_lstore_n C.1 C.2.1 hd rfl o.has hi rfl (fun ls' h' => k p e R s m args below meth c H locs Q ls' C r P S (o.set2 hi hn h'))
theorem G_iinc {i : Nat} {n z : Int} (hd : decode μ.2.1 pc = .ok (.iinc i n, 3)) (hi : i < μ.2.2.1) (hn : nl1 L i = true) (hl : L[i]? = some (some (vI z))) (k : G Γ μ Ret kc ks (pc + 3) (L.set i (some (vI (z + n)))) st w) : G Γ μ Ret kc ks pc L st w :=
  fun p e R s m args below meth c H locs Q ls C r P S o => by
    obtain ⟨j, hj⟩ := List.getElem?_of_mem (lvF_mem (Γ := Γ) hl)
    exact lv_iinc (v := iI (z + n)) C.1 C.2.1 hd o.has hj (iI_add z n) hi rfl (fun ls' h' => k p e R s m args below meth c H locs Q ls' C r P S (o.set1 hi hn h'))
theorem G_goto {off : Int} {tgt : Nat} (hd : decode μ.2.1 pc = .ok (.goto off, 3)) (ht : (pc : Int) + off = (tgt : Int)) (k : G Γ μ Ret kc ks tgt L st w) : G Γ μ Ret kc ks pc L st w :=
  fun p e R s m args below meth c H locs Q ls C r P S o => lv_goto C.1 C.2.1 hd ht (k p e R s m args below meth c H locs Q ls C r P S o)
theorem G_dup {v : Value} (hd : decode μ.2.1 pc = .ok (.dup, 1)) (hv : v.category = 1) (k : G Γ μ Ret kc ks (pc + 1) L (v :: v :: st) w) : G Γ μ Ret kc ks pc L (v :: st) w :=
  fun p e R s m args below meth c H locs Q ls C r P S o => lv_dup C.1 C.2.1 hd (by rw [cv_cat]; exact hv) (k p e R s m args below meth c H locs Q ls C r P S o)
theorem G_dup2 {v u : Value} (hd : decode μ.2.1 pc = .ok (.dup2, 1)) (hv : v.category = 1) (hu : u.category = 1) (k : G Γ μ Ret kc ks (pc + 1) L (v :: u :: v :: u :: st) w) : G Γ μ Ret kc ks pc L (v :: u :: st) w :=
  fun p e R s m args below meth c H locs Q ls C r P S o => lv_dup2_11 C.1 C.2.1 hd (by rw [cv_cat]; exact hv) (by rw [cv_cat]; exact hu) (k p e R s m args below meth c H locs Q ls C r P S o)
theorem G_pop {v : Value} (hd : decode μ.2.1 pc = .ok (.pop, 1)) (hv : v.category = 1) (k : G Γ μ Ret kc ks (pc + 1) L st w) : G Γ μ Ret kc ks pc L (v :: st) w :=
  fun p e R s m args below meth c H locs Q ls C r P S o => lv_pop C.1 C.2.1 hd (by rw [cv_cat]; exact hv) (k p e R s m args below meth c H locs Q ls C r P S o)
theorem G_iadd {x y : Int} (hd : decode μ.2.1 pc = .ok (.iadd, 1)) (k : G Γ μ Ret kc ks (pc + 1) L (vI (x + y) :: st) w) : G Γ μ Ret kc ks pc L (vI y :: vI x :: st) w :=
  fun p e R s m args below meth c H locs Q ls C r P S o => lv_iadd C.1 C.2.1 hd (by rw [iI_add]; exact k p e R s m args below meth c H locs Q ls C r P S o)
theorem G_isub {x y : Int} (hd : decode μ.2.1 pc = .ok (.isub, 1)) (k : G Γ μ Ret kc ks (pc + 1) L (vI (x - y) :: st) w) : G Γ μ Ret kc ks pc L (vI y :: vI x :: st) w :=
  fun p e R s m args below meth c H locs Q ls C r P S o => lv_isub C.1 C.2.1 hd (by rw [iI_sub]; exact k p e R s m args below meth c H locs Q ls C r P S o)
theorem G_imul {x y : Int} (hd : decode μ.2.1 pc = .ok (.imul, 1)) (k : G Γ μ Ret kc ks (pc + 1) L (vI (x * y) :: st) w) : G Γ μ Ret kc ks pc L (vI y :: vI x :: st) w :=
  fun p e R s m args below meth c H locs Q ls C r P S o => lv_imul C.1 C.2.1 hd (by rw [iI_mul]; exact k p e R s m args below meth c H locs Q ls C r P S o)
theorem G_iand {x y : Int} (hd : decode μ.2.1 pc = .ok (.iand, 1)) (k : G Γ μ Ret kc ks (pc + 1) L (vI (zand x y) :: st) w) : G Γ μ Ret kc ks pc L (vI y :: vI x :: st) w :=
  fun p e R s m args below meth c H locs Q ls C r P S o => lv_iand C.1 C.2.1 hd (by have h := k p e R s m args below meth c H locs Q ls C r P S o; unfold vI zand at h; rw [iI_of] at h; exact h)
theorem G_ior {x y : Int} (hd : decode μ.2.1 pc = .ok (.ior, 1)) (k : G Γ μ Ret kc ks (pc + 1) L (vI (zor x y) :: st) w) : G Γ μ Ret kc ks pc L (vI y :: vI x :: st) w :=
  fun p e R s m args below meth c H locs Q ls C r P S o => lv_ior C.1 C.2.1 hd (by have h := k p e R s m args below meth c H locs Q ls C r P S o; unfold vI zor at h; rw [iI_of] at h; exact h)
theorem G_ixor {x y : Int} (hd : decode μ.2.1 pc = .ok (.ixor, 1)) (k : G Γ μ Ret kc ks (pc + 1) L (vI (zxor x y) :: st) w) : G Γ μ Ret kc ks pc L (vI y :: vI x :: st) w :=
  fun p e R s m args below meth c H locs Q ls C r P S o => lv_ixor C.1 C.2.1 hd (by have h := k p e R s m args below meth c H locs Q ls C r P S o; unfold vI zxor at h; rw [iI_of] at h; exact h)
theorem G_ishl {x y : Int} (hd : decode μ.2.1 pc = .ok (.ishl, 1)) (k : G Γ μ Ret kc ks (pc + 1) L (vI (zshl x y) :: st) w) : G Γ μ Ret kc ks pc L (vI y :: vI x :: st) w :=
  fun p e R s m args below meth c H locs Q ls C r P S o => lv_ishl C.1 C.2.1 hd (by have h := k p e R s m args below meth c H locs Q ls C r P S o; unfold vI zshl at h; rw [iI_of] at h; exact h)
theorem G_ishr {x y : Int} (hd : decode μ.2.1 pc = .ok (.ishr, 1)) (k : G Γ μ Ret kc ks (pc + 1) L (vI (zshr x y) :: st) w) : G Γ μ Ret kc ks pc L (vI y :: vI x :: st) w :=
  fun p e R s m args below meth c H locs Q ls C r P S o => lv_ishr C.1 C.2.1 hd (by have h := k p e R s m args below meth c H locs Q ls C r P S o; unfold vI zshr at h; rw [iI_of] at h; exact h)
theorem G_idiv {x y : Int} (hd : decode μ.2.1 pc = .ok (.idiv, 1)) (hx : sm x) (hy : sm y) (h0 : y ≠ 0) (h1 : y ≠ -1) (k : G Γ μ Ret kc ks (pc + 1) L (vI (x.tdiv y) :: st) w) : G Γ μ Ret kc ks pc L (vI y :: vI x :: st) w :=
  fun p e R s m args below meth c H locs Q ls C r P S o => lv_idiv C.1 C.2.1 hd (fun h => h0 ((iI_eq hy (by decide)).mp (h.trans iI_0.symm))) (by rw [iI_div hx hy h1]; exact k p e R s m args below meth c H locs Q ls C r P S o)
theorem G_irem {x y : Int} (hd : decode μ.2.1 pc = .ok (.irem, 1)) (hx : sm x) (hy : sm y) (h0 : y ≠ 0) (h1 : y ≠ -1) (k : G Γ μ Ret kc ks (pc + 1) L (vI (x.tmod y) :: st) w) : G Γ μ Ret kc ks pc L (vI y :: vI x :: st) w :=
  fun p e R s m args below meth c H locs Q ls C r P S o => lv_irem C.1 C.2.1 hd (fun h => h0 ((iI_eq hy (by decide)).mp (h.trans iI_0.symm))) (by
    have e1 : iI x - iI x / iI y * iI y = iI (x.tmod y) := by rw [iI_div hx hy h1, iI_mul, iI_sub, Int.tmod_def, Int.mul_comm]
    rw [e1]
    exact k p e R s m args below meth c H locs Q ls C r P S o)
theorem G_if_lt {x off : Int} {tgt : Nat} (hd : decode μ.2.1 pc = .ok (.ifCond .lt off, 3)) (ht : (pc : Int) + off = (tgt : Int)) (hx : sm x) (kt : x < 0 → G Γ μ Ret kc ks tgt L st w) (kf : ¬ (x < 0) → G Γ μ Ret kc ks (pc + 3) L st w) : G Γ μ Ret kc ks pc L (vI x :: st) w := by
  intro p e R s m args below meth c H locs Q ls C r P S o
  have e1 : (iI x < 0 ↔ x < 0) ∧ (0 < iI x ↔ 0 < x) ∧ (iI x ≤ 0 ↔ x ≤ 0) ∧ (0 ≤ iI x ↔ 0 ≤ x) ∧ (iI x = 0 ↔ x = 0) := by
    have hy : sm 0 := by decide
    rw [← iI_0]
    exact ⟨iI_lt hx hy, iI_lt hy hx, iI_le hx hy, iI_le hy hx, iI_eq hx hy⟩
  exact lv_if_lt C.1 C.2.1 hd ht (fun q => kt (by simpa only [e1.1, e1.2.1, e1.2.2.1, e1.2.2.2.1, e1.2.2.2.2, ne_eq] using q) p e R s m args below meth c H locs Q ls C r P S o) (fun q => kf (by simpa only [e1.1, e1.2.1, e1.2.2.1, e1.2.2.2.1, e1.2.2.2.2, ne_eq] using q) p e R s m args below meth c H locs Q ls C r P S o)
theorem G_icmp_lt {x y off : Int} {tgt : Nat} (hd : decode μ.2.1 pc = .ok (.if_icmp .lt off, 3)) (ht : (pc : Int) + off = (tgt : Int)) (hx : sm x) (hy : sm y) (kt : x < y → G Γ μ Ret kc ks tgt L st w) (kf : ¬ (x < y) → G Γ μ Ret kc ks (pc + 3) L st w) : G Γ μ Ret kc ks pc L (vI y :: vI x :: st) w := by
  intro p e R s m args below meth c H locs Q ls C r P S o
  have e1 : (iI x < iI y ↔ x < y) ∧ (iI y < iI x ↔ y < x) ∧ (iI x ≤ iI y ↔ x ≤ y) ∧ (iI y ≤ iI x ↔ y ≤ x) ∧ (iI x = iI y ↔ x = y) := by
    skip
    skip
    exact ⟨iI_lt hx hy, iI_lt hy hx, iI_le hx hy, iI_le hy hx, iI_eq hx hy⟩
  exact lv_icmp_lt C.1 C.2.1 hd ht (fun q => kt (by simpa only [e1.1, e1.2.1, e1.2.2.1, e1.2.2.2.1, e1.2.2.2.2, ne_eq] using q) p e R s m args below meth c H locs Q ls C r P S o) (fun q => kf (by simpa only [e1.1, e1.2.1, e1.2.2.1, e1.2.2.2.1, e1.2.2.2.2, ne_eq] using q) p e R s m args below meth c H locs Q ls C r P S o)
theorem G_if_ge {x off : Int} {tgt : Nat} (hd : decode μ.2.1 pc = .ok (.ifCond .ge off, 3)) (ht : (pc : Int) + off = (tgt : Int)) (hx : sm x) (kt : 0 ≤ x → G Γ μ Ret kc ks tgt L st w) (kf : ¬ (0 ≤ x) → G Γ μ Ret kc ks (pc + 3) L st w) : G Γ μ Ret kc ks pc L (vI x :: st) w := by
  intro p e R s m args below meth c H locs Q ls C r P S o
  have e1 : (iI x < 0 ↔ x < 0) ∧ (0 < iI x ↔ 0 < x) ∧ (iI x ≤ 0 ↔ x ≤ 0) ∧ (0 ≤ iI x ↔ 0 ≤ x) ∧ (iI x = 0 ↔ x = 0) := by
    have hy : sm 0 := by decide
    rw [← iI_0]
    exact ⟨iI_lt hx hy, iI_lt hy hx, iI_le hx hy, iI_le hy hx, iI_eq hx hy⟩
  exact lv_if_ge C.1 C.2.1 hd ht (fun q => kt (by simpa only [e1.1, e1.2.1, e1.2.2.1, e1.2.2.2.1, e1.2.2.2.2, ne_eq] using q) p e R s m args below meth c H locs Q ls C r P S o) (fun q => kf (by simpa only [e1.1, e1.2.1, e1.2.2.1, e1.2.2.2.1, e1.2.2.2.2, ne_eq] using q) p e R s m args below meth c H locs Q ls C r P S o)
theorem G_icmp_ge {x y off : Int} {tgt : Nat} (hd : decode μ.2.1 pc = .ok (.if_icmp .ge off, 3)) (ht : (pc : Int) + off = (tgt : Int)) (hx : sm x) (hy : sm y) (kt : y ≤ x → G Γ μ Ret kc ks tgt L st w) (kf : ¬ (y ≤ x) → G Γ μ Ret kc ks (pc + 3) L st w) : G Γ μ Ret kc ks pc L (vI y :: vI x :: st) w := by
  intro p e R s m args below meth c H locs Q ls C r P S o
  have e1 : (iI x < iI y ↔ x < y) ∧ (iI y < iI x ↔ y < x) ∧ (iI x ≤ iI y ↔ x ≤ y) ∧ (iI y ≤ iI x ↔ y ≤ x) ∧ (iI x = iI y ↔ x = y) := by
    skip
    skip
    exact ⟨iI_lt hx hy, iI_lt hy hx, iI_le hx hy, iI_le hy hx, iI_eq hx hy⟩
  exact lv_icmp_ge C.1 C.2.1 hd ht (fun q => kt (by simpa only [e1.1, e1.2.1, e1.2.2.1, e1.2.2.2.1, e1.2.2.2.2, ne_eq] using q) p e R s m args below meth c H locs Q ls C r P S o) (fun q => kf (by simpa only [e1.1, e1.2.1, e1.2.2.1, e1.2.2.2.1, e1.2.2.2.2, ne_eq] using q) p e R s m args below meth c H locs Q ls C r P S o)
theorem G_if_gt {x off : Int} {tgt : Nat} (hd : decode μ.2.1 pc = .ok (.ifCond .gt off, 3)) (ht : (pc : Int) + off = (tgt : Int)) (hx : sm x) (kt : 0 < x → G Γ μ Ret kc ks tgt L st w) (kf : ¬ (0 < x) → G Γ μ Ret kc ks (pc + 3) L st w) : G Γ μ Ret kc ks pc L (vI x :: st) w := by
  intro p e R s m args below meth c H locs Q ls C r P S o
  have e1 : (iI x < 0 ↔ x < 0) ∧ (0 < iI x ↔ 0 < x) ∧ (iI x ≤ 0 ↔ x ≤ 0) ∧ (0 ≤ iI x ↔ 0 ≤ x) ∧ (iI x = 0 ↔ x = 0) := by
    have hy : sm 0 := by decide
    rw [← iI_0]
    exact ⟨iI_lt hx hy, iI_lt hy hx, iI_le hx hy, iI_le hy hx, iI_eq hx hy⟩
  exact lv_if_gt C.1 C.2.1 hd ht (fun q => kt (by simpa only [e1.1, e1.2.1, e1.2.2.1, e1.2.2.2.1, e1.2.2.2.2, ne_eq] using q) p e R s m args below meth c H locs Q ls C r P S o) (fun q => kf (by simpa only [e1.1, e1.2.1, e1.2.2.1, e1.2.2.2.1, e1.2.2.2.2, ne_eq] using q) p e R s m args below meth c H locs Q ls C r P S o)
theorem G_icmp_gt {x y off : Int} {tgt : Nat} (hd : decode μ.2.1 pc = .ok (.if_icmp .gt off, 3)) (ht : (pc : Int) + off = (tgt : Int)) (hx : sm x) (hy : sm y) (kt : y < x → G Γ μ Ret kc ks tgt L st w) (kf : ¬ (y < x) → G Γ μ Ret kc ks (pc + 3) L st w) : G Γ μ Ret kc ks pc L (vI y :: vI x :: st) w := by
  intro p e R s m args below meth c H locs Q ls C r P S o
  have e1 : (iI x < iI y ↔ x < y) ∧ (iI y < iI x ↔ y < x) ∧ (iI x ≤ iI y ↔ x ≤ y) ∧ (iI y ≤ iI x ↔ y ≤ x) ∧ (iI x = iI y ↔ x = y) := by
    skip
    skip
    exact ⟨iI_lt hx hy, iI_lt hy hx, iI_le hx hy, iI_le hy hx, iI_eq hx hy⟩
  exact lv_icmp_gt C.1 C.2.1 hd ht (fun q => kt (by simpa only [e1.1, e1.2.1, e1.2.2.1, e1.2.2.2.1, e1.2.2.2.2, ne_eq] using q) p e R s m args below meth c H locs Q ls C r P S o) (fun q => kf (by simpa only [e1.1, e1.2.1, e1.2.2.1, e1.2.2.2.1, e1.2.2.2.2, ne_eq] using q) p e R s m args below meth c H locs Q ls C r P S o)
theorem G_if_le {x off : Int} {tgt : Nat} (hd : decode μ.2.1 pc = .ok (.ifCond .le off, 3)) (ht : (pc : Int) + off = (tgt : Int)) (hx : sm x) (kt : x ≤ 0 → G Γ μ Ret kc ks tgt L st w) (kf : ¬ (x ≤ 0) → G Γ μ Ret kc ks (pc + 3) L st w) : G Γ μ Ret kc ks pc L (vI x :: st) w := by
  intro p e R s m args below meth c H locs Q ls C r P S o
  have e1 : (iI x < 0 ↔ x < 0) ∧ (0 < iI x ↔ 0 < x) ∧ (iI x ≤ 0 ↔ x ≤ 0) ∧ (0 ≤ iI x ↔ 0 ≤ x) ∧ (iI x = 0 ↔ x = 0) := by
    have hy : sm 0 := by decide
    rw [← iI_0]
    exact ⟨iI_lt hx hy, iI_lt hy hx, iI_le hx hy, iI_le hy hx, iI_eq hx hy⟩
  exact lv_if_le C.1 C.2.1 hd ht (fun q => kt (by simpa only [e1.1, e1.2.1, e1.2.2.1, e1.2.2.2.1, e1.2.2.2.2, ne_eq] using q) p e R s m args below meth c H locs Q ls C r P S o) (fun q => kf (by simpa only [e1.1, e1.2.1, e1.2.2.1, e1.2.2.2.1, e1.2.2.2.2, ne_eq] using q) p e R s m args below meth c H locs Q ls C r P S o)
theorem G_icmp_le {x y off : Int} {tgt : Nat} (hd : decode μ.2.1 pc = .ok (.if_icmp .le off, 3)) (ht : (pc : Int) + off = (tgt : Int)) (hx : sm x) (hy : sm y) (kt : x ≤ y → G Γ μ Ret kc ks tgt L st w) (kf : ¬ (x ≤ y) → G Γ μ Ret kc ks (pc + 3) L st w) : G Γ μ Ret kc ks pc L (vI y :: vI x :: st) w := by
  intro p e R s m args below meth c H locs Q ls C r P S o
  have e1 : (iI x < iI y ↔ x < y) ∧ (iI y < iI x ↔ y < x) ∧ (iI x ≤ iI y ↔ x ≤ y) ∧ (iI y ≤ iI x ↔ y ≤ x) ∧ (iI x = iI y ↔ x = y) := by
    skip
    skip
    exact ⟨iI_lt hx hy, iI_lt hy hx, iI_le hx hy, iI_le hy hx, iI_eq hx hy⟩
  exact lv_icmp_le C.1 C.2.1 hd ht (fun q => kt (by simpa only [e1.1, e1.2.1, e1.2.2.1, e1.2.2.2.1, e1.2.2.2.2, ne_eq] using q) p e R s m args below meth c H locs Q ls C r P S o) (fun q => kf (by simpa only [e1.1, e1.2.1, e1.2.2.1, e1.2.2.2.1, e1.2.2.2.2, ne_eq] using q) p e R s m args below meth c H locs Q ls C r P S o)
theorem G_if_eq {x off : Int} {tgt : Nat} (hd : decode μ.2.1 pc = .ok (.ifCond .eq off, 3)) (ht : (pc : Int) + off = (tgt : Int)) (hx : sm x) (kt : x = 0 → G Γ μ Ret kc ks tgt L st w) (kf : ¬ (x = 0) → G Γ μ Ret kc ks (pc + 3) L st w) : G Γ μ Ret kc ks pc L (vI x :: st) w := by
  intro p e R s m args below meth c H locs Q ls C r P S o
  have e1 : (iI x < 0 ↔ x < 0) ∧ (0 < iI x ↔ 0 < x) ∧ (iI x ≤ 0 ↔ x ≤ 0) ∧ (0 ≤ iI x ↔ 0 ≤ x) ∧ (iI x = 0 ↔ x = 0) := by
    have hy : sm 0 := by decide
    rw [← iI_0]
    exact ⟨iI_lt hx hy, iI_lt hy hx, iI_le hx hy, iI_le hy hx, iI_eq hx hy⟩
  exact lv_if_eq C.1 C.2.1 hd ht (fun q => kt (by simpa only [e1.1, e1.2.1, e1.2.2.1, e1.2.2.2.1, e1.2.2.2.2, ne_eq] using q) p e R s m args below meth c H locs Q ls C r P S o) (fun q => kf (by simpa only [e1.1, e1.2.1, e1.2.2.1, e1.2.2.2.1, e1.2.2.2.2, ne_eq] using q) p e R s m args below meth c H locs Q ls C r P S o)
theorem G_icmp_eq {x y off : Int} {tgt : Nat} (hd : decode μ.2.1 pc = .ok (.if_icmp .eq off, 3)) (ht : (pc : Int) + off = (tgt : Int)) (hx : sm x) (hy : sm y) (kt : x = y → G Γ μ Ret kc ks tgt L st w) (kf : ¬ (x = y) → G Γ μ Ret kc ks (pc + 3) L st w) : G Γ μ Ret kc ks pc L (vI y :: vI x :: st) w := by
  intro p e R s m args below meth c H locs Q ls C r P S o
  have e1 : (iI x < iI y ↔ x < y) ∧ (iI y < iI x ↔ y < x) ∧ (iI x ≤ iI y ↔ x ≤ y) ∧ (iI y ≤ iI x ↔ y ≤ x) ∧ (iI x = iI y ↔ x = y) := by
    skip
    skip
    exact ⟨iI_lt hx hy, iI_lt hy hx, iI_le hx hy, iI_le hy hx, iI_eq hx hy⟩
  exact lv_icmp_eq C.1 C.2.1 hd ht (fun q => kt (by simpa only [e1.1, e1.2.1, e1.2.2.1, e1.2.2.2.1, e1.2.2.2.2, ne_eq] using q) p e R s m args below meth c H locs Q ls C r P S o) (fun q => kf (by simpa only [e1.1, e1.2.1, e1.2.2.1, e1.2.2.2.1, e1.2.2.2.2, ne_eq] using q) p e R s m args below meth c H locs Q ls C r P S o)
theorem G_if_ne {x off : Int} {tgt : Nat} (hd : decode μ.2.1 pc = .ok (.ifCond .ne off, 3)) (ht : (pc : Int) + off = (tgt : Int)) (hx : sm x) (kt : x ≠ 0 → G Γ μ Ret kc ks tgt L st w) (kf : x = 0 → G Γ μ Ret kc ks (pc + 3) L st w) : G Γ μ Ret kc ks pc L (vI x :: st) w := by
  intro p e R s m args below meth c H locs Q ls C r P S o
  have e1 : (iI x < 0 ↔ x < 0) ∧ (0 < iI x ↔ 0 < x) ∧ (iI x ≤ 0 ↔ x ≤ 0) ∧ (0 ≤ iI x ↔ 0 ≤ x) ∧ (iI x = 0 ↔ x = 0) := by
    have hy : sm 0 := by decide
    rw [← iI_0]
    exact ⟨iI_lt hx hy, iI_lt hy hx, iI_le hx hy, iI_le hy hx, iI_eq hx hy⟩
  exact lv_if_ne C.1 C.2.1 hd ht (fun q => kt (by simpa only [e1.1, e1.2.1, e1.2.2.1, e1.2.2.2.1, e1.2.2.2.2, ne_eq] using q) p e R s m args below meth c H locs Q ls C r P S o) (fun q => kf (by simpa only [e1.1, e1.2.1, e1.2.2.1, e1.2.2.2.1, e1.2.2.2.2, ne_eq] using q) p e R s m args below meth c H locs Q ls C r P S o)
theorem G_icmp_ne {x y off : Int} {tgt : Nat} (hd : decode μ.2.1 pc = .ok (.if_icmp .ne off, 3)) (ht : (pc : Int) + off = (tgt : Int)) (hx : sm x) (hy : sm y) (kt : x ≠ y → G Γ μ Ret kc ks tgt L st w) (kf : x = y → G Γ μ Ret kc ks (pc + 3) L st w) : G Γ μ Ret kc ks pc L (vI y :: vI x :: st) w := by
  intro p e R s m args below meth c H locs Q ls C r P S o
  have e1 : (iI x < iI y ↔ x < y) ∧ (iI y < iI x ↔ y < x) ∧ (iI x ≤ iI y ↔ x ≤ y) ∧ (iI y ≤ iI x ↔ y ≤ x) ∧ (iI x = iI y ↔ x = y) := by
    skip
    skip
    exact ⟨iI_lt hx hy, iI_lt hy hx, iI_le hx hy, iI_le hy hx, iI_eq hx hy⟩
  exact lv_icmp_ne C.1 C.2.1 hd ht (fun q => kt (by simpa only [e1.1, e1.2.1, e1.2.2.1, e1.2.2.2.1, e1.2.2.2.2, ne_eq] using q) p e R s m args below meth c H locs Q ls C r P S o) (fun q => kf (by simpa only [e1.1, e1.2.1, e1.2.2.1, e1.2.2.2.1, e1.2.2.2.2, ne_eq] using q) p e R s m args below meth c H locs Q ls C r P S o)
-- longs
abbrev sm8 (z : Int) : Prop := -9223372036854775808 ≤ z ∧ z < 9223372036854775808
theorem lI_add (a b : Int) : lI a + lI b = lI (a + b) := (Int64.ofInt_add a b).symm
theorem lI_sub (a b : Int) : lI a - lI b = lI (a - b) := (Int64.ofInt_sub a b).symm
theorem lI_mul (a b : Int) : lI a * lI b = lI (a * b) := (Int64.ofInt_mul a b).symm
theorem lI_div {a b : Int} (ha : sm8 a) (hb : sm8 b) : lI a / lI b = lI (a.tdiv b) := (Int64.ofInt_tdiv (by have := ha.1; show (-9223372036854775808 : Int) ≤ a; omega) (by have := ha.2; show a ≤ (9223372036854775807 : Int); omega) (by have := hb.1; show (-9223372036854775808 : Int) ≤ b; omega) (by have := hb.2; show b ≤ (9223372036854775807 : Int); omega)).symm
theorem lI_toInt {z : Int} (h : sm8 z) : (lI z).toInt = z := Int64.toInt_ofInt_of_le (by have := h.1; omega) (by have := h.2; omega)
theorem lI_ne0 {z : Int} (h : sm8 z) (h0 : z ≠ 0) : ¬ lI z = 0 := fun q => h0 (by
  have e := congrArg Int64.toInt q
  rw [lI_toInt h] at e
  exact e)
theorem G_lconst {n : Fin 2} (hd : decode μ.2.1 pc = .ok (.lconst n, 1)) (k : G Γ μ Ret kc ks (pc + 1) L (vL (n.val : Int) :: st) w) : G Γ μ Ret kc ks pc L st w :=
  fun p e R s m args below meth c H locs Q ls C r P S o => lv_lconst (v := lI (n.val : Int)) C.1 C.2.1 hd (by match n with | 0 => decide +kernel | 1 => decide +kernel) (k p e R s m args below meth c H locs Q ls C r P S o)
theorem G_ldc2 {n : Int} {i : Nat} (hd : decode μ.2.1 pc = .ok (.ldc2_w i, 3)) (hc : Cond.constantLong μ.1.cls i (lI n) ∈ TB) (k : G Γ μ Ret kc ks (pc + 3) L (vL n :: st) w) : G Γ μ Ret kc ks pc L st w :=
  fun p e R s m args below meth c H locs Q ls C r P S o => lv_ldc2 C.1 C.2.1 C.2.2.2.1 (C.2.2.2.2.1 _ hc) hd (k p e R s m args below meth c H locs Q ls C r P S o)
theorem G_ladd {x y : Int} (hd : decode μ.2.1 pc = .ok (.ladd, 1)) (k : G Γ μ Ret kc ks (pc + 1) L (vL (x + y) :: st) w) : G Γ μ Ret kc ks pc L (vL y :: vL x :: st) w :=
  fun p e R s m args below meth c H locs Q ls C r P S o => lv_ladd C.1 C.2.1 hd (by rw [lI_add]; exact k p e R s m args below meth c H locs Q ls C r P S o)
theorem G_lmul {x y : Int} (hd : decode μ.2.1 pc = .ok (.lmul, 1)) (k : G Γ μ Ret kc ks (pc + 1) L (vL (x * y) :: st) w) : G Γ μ Ret kc ks pc L (vL y :: vL x :: st) w :=
  fun p e R s m args below meth c H locs Q ls C r P S o => lv_lmul C.1 C.2.1 hd (by rw [lI_mul]; exact k p e R s m args below meth c H locs Q ls C r P S o)
theorem G_ldiv {x y : Int} (hd : decode μ.2.1 pc = .ok (.ldiv, 1)) (hx : sm8 x) (hy : sm8 y) (h0 : y ≠ 0) (k : G Γ μ Ret kc ks (pc + 1) L (vL (x.tdiv y) :: st) w) : G Γ μ Ret kc ks pc L (vL y :: vL x :: st) w :=
  fun p e R s m args below meth c H locs Q ls C r P S o => lv_ldiv C.1 C.2.1 hd (lI_ne0 hy h0) (by rw [lI_div hx hy]; exact k p e R s m args below meth c H locs Q ls C r P S o)
theorem G_lrem {x y : Int} (hd : decode μ.2.1 pc = .ok (.lrem, 1)) (hx : sm8 x) (hy : sm8 y) (h0 : y ≠ 0) (k : G Γ μ Ret kc ks (pc + 1) L (vL (x.tmod y) :: st) w) : G Γ μ Ret kc ks pc L (vL y :: vL x :: st) w :=
  fun p e R s m args below meth c H locs Q ls C r P S o => lv_lrem C.1 C.2.1 hd (lI_ne0 hy h0) (by
    have e1 : lI x - lI x / lI y * lI y = lI (x.tmod y) := by rw [lI_div hx hy, lI_mul, lI_sub, Int.tmod_def, Int.mul_comm]
    rw [e1]
    exact k p e R s m args below meth c H locs Q ls C r P S o)
theorem G_i2l {x : Int} (hd : decode μ.2.1 pc = .ok (.i2l, 1)) (hx : sm x) (k : G Γ μ Ret kc ks (pc + 1) L (vL x :: st) w) : G Γ μ Ret kc ks pc L (vI x :: st) w :=
  fun p e R s m args below meth c H locs Q ls C r P S o => lv_i2l (v := lI x) C.1 C.2.1 hd (Int32.toInt64_ofInt (by have := hx.1; show (-2147483648 : Int) ≤ x; omega) (by have := hx.2; show x ≤ (2147483647 : Int); omega)) (k p e R s m args below meth c H locs Q ls C r P S o)
theorem G_l2i {x : Int} (hd : decode μ.2.1 pc = .ok (.l2i, 1)) (k : G Γ μ Ret kc ks (pc + 1) L (vI x :: st) w) : G Γ μ Ret kc ks pc L (vL x :: st) w :=
  fun p e R s m args below meth c H locs Q ls C r P S o => lv_l2i (v := iI x) C.1 C.2.1 hd Int64.toInt32_ofInt (k p e R s m args below meth c H locs Q ls C r P S o)
-- small things
theorem iI_char {z : Int} (h : 0 ≤ z ∧ z < 65536) : ((iI z).toUInt32 % 65536).toInt32 = iI z := by
  obtain ⟨n, rfl⟩ : ∃ n : Nat, z = n := ⟨z.toNat, by omega⟩
  have hn : n < 65536 := by omega
  apply Int32.toBitVec_inj.mp
  simp only [iI, UInt32.toBitVec_toInt32, UInt32.toBitVec_mod, Int32.toBitVec_toUInt32, Int32.toBitVec_ofInt]
  apply BitVec.eq_of_toNat_eq
  simp only [BitVec.toNat_umod, BitVec.toNat_ofInt, UInt32.toNat_toBitVec, UInt32.toNat_ofNat]
  have e1 : ((2 ^ 32 : Nat) : Int) = 4294967296 := by decide
  have e2 : 65536 % 2 ^ 32 = 65536 := by decide
  rw [e1, e2]
  omega
theorem G_i2c {x : Int} (hd : decode μ.2.1 pc = .ok (.i2c, 1)) (hx : 0 ≤ x ∧ x < 65536) (k : G Γ μ Ret kc ks (pc + 1) L (vI x :: st) w) : G Γ μ Ret kc ks pc L (vI x :: st) w :=
  fun p e R s m args below meth c H locs Q ls C r P S o => lv_i2c (v := iI x) C.1 C.2.1 hd (iI_char hx) (k p e R s m args below meth c H locs Q ls C r P S o)
def zushr (a b : Int) : Int := ((iI a).toUInt32 >>> ((iI b).toUInt32 &&& Int32.toUInt32 31)).toInt32.toInt
theorem G_iushr {x y : Int} (hd : decode μ.2.1 pc = .ok (.iushr, 1)) (k : G Γ μ Ret kc ks (pc + 1) L (vI (zushr x y) :: st) w) : G Γ μ Ret kc ks pc L (vI y :: vI x :: st) w :=
  fun p e R s m args below meth c H locs Q ls C r P S o => lv_iushr C.1 C.2.1 hd rfl (by have h := k p e R s m args below meth c H locs Q ls C r P S o; unfold vI zushr at h; rw [iI_of] at h; exact h)
theorem G_tableIn {dflt lo hi : Int} {offs : Array Int} {len : Nat} {z off : Int} {tgt : Nat} (hd : decode μ.2.1 pc = .ok (.tableswitch dflt lo hi offs, len)) (hz : sm z) (h1 : ¬ z < lo) (h2 : ¬ hi < z) (ho : offs[(z - lo).toNat]? = some off) (ht : (pc : Int) + off = (tgt : Int)) (k : G Γ μ Ret kc ks tgt L st w) : G Γ μ Ret kc ks pc L (vI z :: st) w :=
  fun p e R s m args below meth c H locs Q ls C r P S o => lv_tableIn C.1 C.2.1 hd (by rw [iI_toInt hz]; exact h1) (by rw [iI_toInt hz]; exact h2) (by rw [iI_toInt hz]; exact ho) ht (k p e R s m args below meth c H locs Q ls C r P S o)
theorem G_tableOut {dflt lo hi : Int} {offs : Array Int} {len : Nat} {z : Int} {tgt : Nat} (hd : decode μ.2.1 pc = .ok (.tableswitch dflt lo hi offs, len)) (hz : sm z) (h : z < lo ∨ hi < z) (ht : (pc : Int) + dflt = (tgt : Int)) (k : G Γ μ Ret kc ks tgt L st w) : G Γ μ Ret kc ks pc L (vI z :: st) w :=
  fun p e R s m args below meth c H locs Q ls C r P S o => lv_tableOut C.1 C.2.1 hd (by rw [iI_toInt hz]; exact h) ht (k p e R s m args below meth c H locs Q ls C r P S o)
theorem G_lookup {dflt : Int} {ps : Array (Int × Int)} {len : Nat} {z off : Int} {tgt : Nat} (hd : decode μ.2.1 pc = .ok (.lookupswitch dflt ps, len)) (hz : sm z) (hp : (ps.toList.zip (ps.toList.drop 1)).all (fun (a, next) => a.1 < next.1) = true) (ho : Op.lookupswitch.offset ps.toList dflt z = off) (ht : (pc : Int) + off = (tgt : Int)) (k : G Γ μ Ret kc ks tgt L st w) : G Γ μ Ret kc ks pc L (vI z :: st) w :=
  fun p e R s m args below meth c H locs Q ls C r P S o => lv_lookup C.1 C.2.1 hd hp (by rw [iI_toInt hz]; exact ho) ht (k p e R s m args below meth c H locs Q ls C r P S o)
theorem G_ifnull {x : Nat} {off : Int} (hd : decode μ.2.1 pc = .ok (.ifnull off, 3)) (k : G Γ μ Ret kc ks (pc + 3) L st w) : G Γ μ Ret kc ks pc L (vR x :: st) w :=
  fun p e R s m args below meth c H locs Q ls C r P S o => lv_ifnull C.1 C.2.1 hd (k p e R s m args below meth c H locs Q ls C r P S o)
theorem G_ifnonnull {x : Nat} {off : Int} {tgt : Nat} (hd : decode μ.2.1 pc = .ok (.ifnonnull off, 3)) (ht : (pc : Int) + off = (tgt : Int)) (k : G Γ μ Ret kc ks tgt L st w) : G Γ μ Ret kc ks pc L (vR x :: st) w :=
  fun p e R s m args below meth c H locs Q ls C r P S o => lv_ifnonnull C.1 C.2.1 hd ht (k p e R s m args below meth c H locs Q ls C r P S o)
theorem G_ret (v : Option Value) (hd : isRet μ.2.1 pc v) (hf : rfit μ.2.2.2.1 v) (hk : kc = μ.2.2.2.2.cells ∧ ks ≤ μ.2.2.2.2.slots) (h : Ret v w) : G Γ μ Ret kc ks pc L v.toList w :=
  fun p e R s m args below meth c H locs Q ls C r P S o => r v w H locs kc ks pc ls h hf (Or.inl (by rw [C.2.2.2.2.2.1]; exact hk.1)) (by rw [C.2.2.2.2.2.1]; exact hk.2) P S hd
/-- .. of the law itself, which may have room left -/
theorem G_retL (v : Option Value) (hd : isRet μ.2.1 pc v) (hf : rfit μ.2.2.2.1 v) (hk : μ.1.cls = RL ∧ kc ≤ μ.2.2.2.2.cells ∧ ks ≤ μ.2.2.2.2.slots) (h : Ret v w) : G Γ μ Ret kc ks pc L v.toList w :=
  fun p e R s m args below meth c H locs Q ls C r P S o => r v w H locs kc ks pc ls h hf (Or.inr ⟨hk.1, by rw [C.2.2.2.2.2.1]; exact hk.2.1⟩) (by rw [C.2.2.2.2.2.1]; exact hk.2.2) P S hd
theorem G_forget {L' : List (Option Value)} (h : ∀ (k : Nat) (v : Value), L'[k]? = some (some v) → L[k]? = some (some v)) (hl : L'.length = L.length) (k : G Γ μ Ret kc ks pc L' st w) : G Γ μ Ret kc ks pc L st w :=
  fun p e R s m args below meth c H locs Q ls C r P S o => k p e R s m args below meth c H locs Q ls C r P S ⟨hl.trans o.1, o.2.1, o.2.2.1, fun i v hv => o.2.2.2 i v (h i v hv)⟩
/-- L' knows no more than L -/
def lle : List (Option Value) → List (Option Value) → Prop
  | [], [] => True
  | none :: a, _ :: b => lle a b
  | some v :: a, x :: b => x = some v ∧ lle a b
  | _, _ => False
theorem lle_at : ∀ (a b : List (Option Value)), lle a b → a.length = b.length ∧ ∀ (k : Nat) (v : Value), a[k]? = some (some v) → b[k]? = some (some v)
  | [], [], _ => ⟨rfl, fun k v h => by simp at h⟩
  | none :: a, x :: b, h => by
    obtain ⟨h1, h2⟩ := lle_at a b h
    refine ⟨by simp [h1], fun k v hk => ?_⟩
    cases k with
    | zero => simp at hk
    | succ k => simpa using h2 k v (by simpa using hk)
  | some u :: a, x :: b, h => by
    obtain ⟨h0, h⟩ := h
    obtain ⟨h1, h2⟩ := lle_at a b h
    refine ⟨by simp [h1], fun k v hk => ?_⟩
    cases k with
    | zero => simpa [h0] using hk
    | succ k => simpa using h2 k v (by simpa using hk)
  | [], _ :: _, h => h.elim
  | none :: _, [], h => h.elim
  | some _ :: _, [], h => h.elim
theorem G_less {L' : List (Option Value)} (h : lle L' L) (k : G Γ μ Ret kc ks pc L' st w) : G Γ μ Ret kc ks pc L st w := G_forget (lle_at L' L h).2 (lle_at L' L h).1 k
theorem G_mono {Ret' : Option Value → Wd → Prop} (h : ∀ v u, Ret v u → Ret' v u) (k : G Γ μ Ret kc ks pc L st w) : G Γ μ Ret' kc ks pc L st w :=
  fun p e R s m args below meth c H locs Q ls C r P S o => k p e R s m args below meth c H locs Q ls C (fun v u H1 l1 kc1 ks1 pc1 ls1 hv => r v u H1 l1 kc1 ks1 pc1 ls1 (h v u hv)) P S o
-- fields
theorem cls_ne {ci : Nat} {C : String} {T : u_T} {N : Nat} (h : clsL[ci]? = some (C, T, N)) : C ≠ RL := by
  have h1 : C ∈ clsL.map (fun x => x.1) := List.mem_map.mpr ⟨_, List.mem_of_getElem? h, rfl⟩
  have h2 : ∀ x ∈ clsL.map (fun x => x.1), x ≠ RL := by decide +kernel
  exact h2 C h1
/-- what the tables say of a class -/
def CW (C : String) (T : u_T) (N : Nat) (ty0 : Nat → FieldType) : Prop := (∀ w ∈ u_ws C T N, w ∈ TB) ∧ (∀ k, k < N → parseFieldDescriptor (T k).2.2.1 = some (ty0 k)) ∧ ∀ a, a < N → ∀ b, b < N → a ≠ b → (T a).2.1 ≠ (T b).2.1
/-- own's place idx names field k of class ci -/
def FL (own : String) (idx ci k : Nat) (fin : Bool) (desc : String) : Prop := ∃ (C : String) (T : u_T) (N : Nat) (ty0 : Nat → FieldType), clsL[ci]? = some (C, T, N) ∧ k < N ∧ CW C T N ty0 ∧ (T k).1 = C ∧ (T k).2.2.1 = desc ∧ (T k).2.2.2 = fin ∧ (ksO ci).length = N ∧
  (Cond.fieldLink own idx C (T k).2.1 (T k).2.2.1 ∈ TB ∨ (fin = false ∨ own ≠ C) ∧ ∃ host, Cond.fieldLinkNest own idx C (T k).2.1 (T k).2.2.1 host ∈ NB)
theorem tb_nw {args : Array Value} {s : State} {c : Cond} (h : c.before args s = true) (ho : c.onTables = true) : va_Nw c s := va_tabs ho (rfl : s.vm = s.vm) h
theorem obE_at (Γ : Gm) {ks : List Bool} (f : Int → Int) (g : Int → Value) {k : Nat} (hk : k < ks.length) : ((List.range ks.length).map (obE Γ ks f g))[k]? = some (obE Γ ks f g k) := by
  simp [List.getElem?_map, List.getElem?_range hk]
theorem sh_ne {r : Nat} {x : Sh} (hs : sh w r = some x) : r < 997 := by
  unfold sh at hs
  split at hs
  · have e9 : shp.length = 78 := by decide +kernel
    have := (List.getElem?_eq_some_iff.mp hs).1
    omega
  · cases hs
theorem cv_R (Γ : Gm) {r : Nat} {x : Sh} (hs : sh w r = some x) : cv Γ (vR r) = .ref (Γ.2.2.2.1 + r) := by
  show Value.ref (ad Γ r) = _
  have := sh_ne hs
  rw [ad, if_neg (by omega), if_neg (by omega), if_neg (by omega)]
theorem G_get {idx r ci k : Nat} {fin : Bool} {desc : String} {v : Value} (hd : decode μ.2.1 pc = .ok (.getfield idx, 3)) (hf : FL μ.1.cls idx ci k fin desc) (hs : sh w r = some (.inr ci)) (hv : obE Γ (ksO ci) (w.2.1 r) (w.2.2 r) k = cv Γ v) (kk : G Γ μ Ret kc ks (pc + 3) L (v :: st) w) : G Γ μ Ret kc ks pc L (vR r :: st) w := by
  intro p e R s m args below meth c H locs Q ls C r0 P S o
  obtain ⟨Cn, T, N, ty0, hc, hkN, hW, hT1, hT2, hT3, hlen, hl⟩ := hf
  have hK := C.2.2.2.2.2.2.2.1.1
  have hat := wsW_at Γ hs
  have hts := C.2.2.2.2.1
  have h3 := kk p e R s m args below meth c H locs Q ls C r0 P S o
  show W _ _ _ _ _ _ _ _ _ _ _ _ _ _ _ (F0 m pc ls (cv Γ (vR r) :: st.map (cv Γ)))
  rw [cv_R Γ hs]
  have hv' : ((List.range (ksO ci).length).map (obE Γ (ksO ci) (w.2.1 r) (w.2.2 r)))[k]? = some (cv Γ v) := by rw [obE_at Γ _ _ (by rw [hlen]; exact hkN), hv]
  rcases hl with hl | ⟨-, host, hl⟩
  · exact va_get (C := Cn) (T := T) (N := N) (ref := Cn) C.1 C.2.1 hts hW.1 C.2.2.2.1 hK P r hat hc k hkN (hts _ hl) (fun x h9 => by rw [hT1] at h9; exact h9) hv' hd h3
  · exact va_getN (C := Cn) (T := T) (N := N) (ref := Cn) (host := host) C.1 C.2.1 hts hW.1 C.2.2.2.1 hK P r hat hc k hkN ((C.2.2.2.2.2.2.2.1.2.2.1 _ hl).use rfl) (fun x h9 => by rw [hT1] at h9; exact h9) hv' hd h3
theorem G_getI {idx r ci k : Nat} {fin : Bool} {desc : String} (hd : decode μ.2.1 pc = .ok (.getfield idx, 3)) (hf : FL μ.1.cls idx ci k fin desc) (hs : sh w r = some (.inr ci)) (hk : (ksO ci).getD k false = false) (kk : G Γ μ Ret kc ks (pc + 3) L (vI (wI w r k) :: st) w) : G Γ μ Ret kc ks pc L (vR r :: st) w :=
  G_get (v := vI (wI w r k)) hd hf hs (by unfold obE; rw [hk]; rfl) kk
theorem G_getR {idx r ci k q : Nat} {fin : Bool} {desc : String} (hd : decode μ.2.1 pc = .ok (.getfield idx, 3)) (hf : FL μ.1.cls idx ci k fin desc) (hs : sh w r = some (.inr ci)) (hk : (ksO ci).getD k false = true) (hq : wR w r k = vR q) (kk : G Γ μ Ret kc ks (pc + 3) L (vR q :: st) w) : G Γ μ Ret kc ks pc L (vR r :: st) w :=
  G_get (v := vR q) hd hf hs (by unfold obE; rw [hk, if_pos rfl]; show cv Γ (wR w r k) = _; rw [hq]) kk
/-- the world's list behind a store into place r -/
theorem wsW_set (Γ : Gm) {w w' : Wd} {r : Nat} {x : Sh} (h : sh w r = some x) (hn : w'.1 = w.1) (h1 : ∀ a, a ≠ r → w'.2.1 a = w.2.1 a ∧ w'.2.2 a = w.2.2 a) : (wsW Γ w).set r (Γ.2.2.2.1 + r, cellE Γ x (w'.2.1 r) (w'.2.2 r)) = wsW Γ w' := by
  have hx : r < w.1 ∧ shp[r]? = some x := by
    unfold sh at h
    split at h
    · rename_i q; exact ⟨q, h⟩
    · cases h
  apply List.ext_getElem?
  intro j
  by_cases e : j = r
  · subst e
    have h2 : sh w' j = some x := by unfold sh; rw [hn, if_pos hx.1]; exact hx.2
    rw [wsW_at Γ h2, List.getElem?_set_self (by rw [wsW_len]; exact hx.1)]
  · rw [List.getElem?_set_ne (fun q => e q.symm)]
    simp only [wsW, List.getElem?_map, hn]
    cases hj : (List.range w.1)[j]? with
    | none => rfl
    | some i =>
      obtain ⟨h2, h3⟩ := List.getElem?_eq_some_iff.mp hj
      simp at h3
      subst h3
      simp only [Option.map_some, wsE]
      rw [(h1 j e).1, (h1 j e).2]
theorem obE_set (Γ : Gm) (ks : List Bool) (f f' : Int → Int) (g g' : Int → Value) (k : Nat) (v : Value) (h1 : obE Γ ks f' g' k = v) (h2 : ∀ j : Nat, j ≠ k → f' j = f j ∧ g' j = g j) : ((List.range ks.length).map (obE Γ ks f g)).set k v = (List.range ks.length).map (obE Γ ks f' g') := by
  apply List.ext_getElem?
  intro j
  by_cases e : j = k
  · subst e
    by_cases hj : j < ks.length
    · rw [List.getElem?_set_self (by simpa using hj), obE_at Γ _ _ hj, h1]
    · rw [List.getElem?_eq_none (by simp; omega), List.getElem?_eq_none (by simp; omega)]
  · rw [List.getElem?_set_ne (fun q => e q.symm)]
    simp only [List.getElem?_map]
    cases hj : (List.range ks.length)[j]? with
    | none => rfl
    | some i =>
      obtain ⟨hh, h3⟩ := List.getElem?_eq_some_iff.mp hj
      simp at h3
      subst h3
      simp only [Option.map_some, obE]
      rw [(h2 j e).1, (h2 j e).2]
theorem G_put {idx r ci k : Nat} {fin : Bool} {desc : String} {v : Value} {ty : FieldType} {w' : Wd} (hd : decode μ.2.1 pc = .ok (.putfield idx, 3)) (hf : FL μ.1.cls idx ci k fin desc) (hs : sh w r = some (.inr ci)) (hfin : fin = true → μ.1.name = "<init>" ∧ ∃ T N, clsL[ci]? = some (μ.1.cls, T, N))
    (hty : parseFieldDescriptor desc = some ty) (hn : narrow ty (cv Γ v) = cv Γ v) (hfit : fits ty (cv Γ v) = true) (hw1 : w'.1 = w.1) (hw2 : ∀ a, a ≠ r → w'.2.1 a = w.2.1 a ∧ w'.2.2 a = w.2.2 a) (hw3 : ∀ j : Nat, j ≠ k → w'.2.1 r j = w.2.1 r j ∧ w'.2.2 r j = w.2.2 r j) (hw4 : obE Γ (ksO ci) (w'.2.1 r) (w'.2.2 r) k = cv Γ v)
    (kk : G Γ μ Ret kc ks (pc + 3) L st w') : G Γ μ Ret kc ks pc L (v :: vR r :: st) w := by
  intro p e R s m args below meth c H locs Q ls C r0 P S o
  obtain ⟨Cn, T, N, ty0, hc, hkN, hW, hT1, hT2, hT3, hlen, hl⟩ := hf
  have hK := C.2.2.2.2.2.2.2.1.1
  have hat := wsW_at Γ hs
  have hts := C.2.2.2.2.1
  show W _ _ _ _ _ _ _ _ _ _ _ _ _ _ _ (F0 m pc ls (cv Γ v :: cv Γ (vR r) :: st.map (cv Γ)))
  rw [cv_R Γ hs]
  have hset : (wsW Γ w).set r (Γ.2.2.2.1 + r, .inr (ci, ((List.range (ksO ci).length).map (obE Γ (ksO ci) (w.2.1 r) (w.2.2 r))).set k (cv Γ v))) = wsW Γ w' := by
    rw [obE_set Γ (ksO ci) _ (w'.2.1 r) _ (w'.2.2 r) k (cv Γ v) hw4 hw3]
    exact wsW_set Γ hs hw1 hw2
  have hl1 : k < ((List.range (ksO ci).length).map (obE Γ (ksO ci) (w.2.1 r) (w.2.2 r))).length := by simp; rw [hlen]; exact hkN
  have fin3 : ∀ (H1 : Heap) (locs1 : List Loc), va_P Γ.2.1 clsL ((wsW Γ w).set r (Γ.2.2.2.1 + r, .inr (ci, ((List.range (ksO ci).length).map (obE Γ (ksO ci) (w.2.1 r) (w.2.2 r))).set k (cv Γ v)))) H1 → va_S (Ab Γ) s.heap H1 locs1 → W p Γ.1 e R s m args below meth c H1 locs1 kc ks Q (F0 m (pc + 3) ls (st.map (cv Γ))) := by
    intro H1 locs1 a1 a3
    rw [hset] at a1
    exact kk p e R s m args below meth c H1 locs1 Q ls C r0 a1 ⟨a3, by rw [hw1]; exact S.2⟩ o
  have hty' : parseFieldDescriptor (T k).2.2.1 = some ty := by rw [hT2]; exact hty
  have hsame : ∀ x, s.fieldFound? (T k).1 (T k).2.1 (T k).2.2.1 = some x → s.fieldFound? Cn (T k).2.1 (T k).2.2.1 = some x := fun x h9 => by rw [hT1] at h9; exact h9
  cases hfb : fin with
  | false =>
    rw [hfb] at hT3
    rcases hl with hl | ⟨-, host, hl⟩
    · exact va_put (C := Cn) (T := T) (N := N) (ref := Cn) C.1 C.2.1 hts hW.1 ty0 hW.2.1 hW.2.2 C.2.2.2.1 hK P (wsW_D Γ w) S.1 r hat hc k hkN (hts _ hl) hsame hT3 hty' hn hfit hl1 hd (fun H1 locs1 a1 _ a3 => fin3 H1 locs1 a1 a3)
    · exact va_putN (C := Cn) (T := T) (N := N) (ref := Cn) (host := host) C.1 C.2.1 hts hW.1 ty0 hW.2.1 hW.2.2 C.2.2.2.1 hK P (wsW_D Γ w) S.1 r hat hc k hkN ((C.2.2.2.2.2.2.2.1.2.2.1 _ hl).use rfl) hsame hT3 hty' hn hfit hl1 hd (fun H1 locs1 a1 _ a3 => fin3 H1 locs1 a1 a3)
  | true =>
    rw [hfb] at hT3
    obtain ⟨hin, T', N', hc'⟩ := hfin hfb
    rcases hl with hl | ⟨hh, host, hl⟩
    · exact va_putF (C := Cn) (T := T) (N := N) (ref := Cn) C.1 C.2.1 hts hW.1 ty0 hW.2.1 hW.2.2 C.2.2.2.1 hK P (wsW_D Γ w) S.1 r hat hc k hkN (hts _ hl) hsame hT3 ((C.2.2.2.2.2.2.1 (cls_ne hc')).trans hin) (by rw [hT1]; rw [hc] at hc'; cases hc'; rfl) hty' hn hfit hl1 hd (fun H1 locs1 a1 _ a3 => fin3 H1 locs1 a1 a3)
    · rcases hh with hh | hh
      · rw [hfb] at hh; cases hh
      · exact absurd (by rw [hc] at hc'; cases hc'; rfl) hh
/-- an int field -/
theorem G_putI {idx r ci k : Nat} {z : Int} (hd : decode μ.2.1 pc = .ok (.putfield idx, 3)) (hf : FL μ.1.cls idx ci k false "I") (hs : sh w r = some (.inr ci)) (hk : (ksO ci).getD k false = false) (kk : G Γ μ Ret kc ks (pc + 3) L st (stI w r k z)) : G Γ μ Ret kc ks pc L (vI z :: vR r :: st) w :=
  G_put (w' := stI w r k z) (ty := .int) hd hf hs (fun h => by cases h) (by decide +kernel) rfl rfl rfl (fun a ha => ⟨by funext i; show (if a = r ∧ _ then _ else _) = _; rw [if_neg (fun q => ha q.1)], rfl⟩) (fun j hj => ⟨by show (if r = r ∧ ((j : Int) = (k : Int)) then _ else _) = _; rw [if_neg (fun q => hj (by omega))], rfl⟩) (by unfold obE; rw [hk]; show vI (if r = r ∧ (k : Int) = (k : Int) then z else _) = _; rw [if_pos ⟨rfl, rfl⟩]; rfl) kk
/-- a boolean field -/
theorem G_putZ {idx r ci k : Nat} {z : Int} (hd : decode μ.2.1 pc = .ok (.putfield idx, 3)) (hf : FL μ.1.cls idx ci k false "Z") (hs : sh w r = some (.inr ci)) (hk : (ksO ci).getD k false = false) (hz : z = 0 ∨ z = 1) (kk : G Γ μ Ret kc ks (pc + 3) L st (stI w r k z)) : G Γ μ Ret kc ks pc L (vI z :: vR r :: st) w :=
  G_put (w' := stI w r k z) (ty := .boolean) hd hf hs (fun h => by cases h) (by decide +kernel) (by rcases hz with rfl | rfl; exact (by decide +kernel : narrow .boolean (vI 0) = vI 0); exact (by decide +kernel : narrow .boolean (vI 1) = vI 1)) (by rcases hz with rfl | rfl; exact (by decide +kernel : fits .boolean (vI 0) = true); exact (by decide +kernel : fits .boolean (vI 1) = true)) rfl (fun a ha => ⟨by funext i; show (if a = r ∧ _ then _ else _) = _; rw [if_neg (fun q => ha q.1)], rfl⟩) (fun j hj => ⟨by show (if r = r ∧ ((j : Int) = (k : Int)) then _ else _) = _; rw [if_neg (fun q => hj (by omega))], rfl⟩) (by unfold obE; rw [hk]; show vI (if r = r ∧ (k : Int) = (k : Int) then z else _) = _; rw [if_pos ⟨rfl, rfl⟩]; rfl) kk
/-- a reference's field -/
theorem G_putR {idx r ci k q : Nat} {fin : Bool} {desc : String} {ty : FieldType} (hd : decode μ.2.1 pc = .ok (.putfield idx, 3)) (hf : FL μ.1.cls idx ci k fin desc) (hs : sh w r = some (.inr ci)) (hk : (ksO ci).getD k false = true) (hfin : fin = true → μ.1.name = "<init>" ∧ ∃ T N, clsL[ci]? = some (μ.1.cls, T, N))
    (hty : parseFieldDescriptor desc = some ty) (hn : ∀ a, narrow ty (.ref a) = .ref a) (hfit : ∀ a, fits ty (.ref a) = true) (kk : G Γ μ Ret kc ks (pc + 3) L st (stR w r k (vR q))) : G Γ μ Ret kc ks pc L (vR q :: vR r :: st) w :=
  G_put (w' := stR w r k (vR q)) hd hf hs hfin hty (hn _) (hfit _) rfl (fun a ha => ⟨rfl, by funext i; show (if a = r ∧ _ then _ else _) = _; rw [if_neg (fun q => ha q.1)]⟩) (fun j hj => ⟨rfl, by show (if r = r ∧ ((j : Int) = (k : Int)) then _ else _) = _; rw [if_neg (fun q => hj (by omega))]⟩) (by unfold obE; rw [hk, if_pos rfl]; show cv Γ (if r = r ∧ (k : Int) = (k : Int) then vR q else _) = _; rw [if_pos ⟨rfl, rfl⟩]) kk
-- arrays
theorem tn_in {z : Int} {n : Nat} (h : 0 ≤ z ∧ z < (n : Int)) (hn : n < 2147483648) : (iI z).toNatClampNeg = z.toNat ∧ ((z.toNat : Nat) : Int) = z := ⟨iI_nat ⟨by omega, by omega⟩, by omega⟩
theorem G_iald {r n : Nat} {z : Int} (hd : decode μ.2.1 pc = .ok (.iaload, 1)) (hs : sh w r = some (.inl (0, n))) (hz : 0 ≤ z ∧ z < (n : Int)) (hn : n < 2147483648) (kk : G Γ μ Ret kc ks (pc + 1) L (vI (wI w r z) :: st) w) : G Γ μ Ret kc ks pc L (vI z :: vR r :: st) w := by
  intro p e R s m args below meth c H locs Q ls C r0 P S o
  have h := kk p e R s m args below meth c H locs Q ls C r0 P S o
  show W _ _ _ _ _ _ _ _ _ _ _ _ _ _ _ (F0 m pc ls (.int (iI z) :: cv Γ (vR r) :: st.map (cv Γ)))
  rw [cv_R Γ hs]
  refine va_iald C.1 C.2.1 C.2.2.2.2.2.2.2.1.1 P r 0 (wsW_at Γ hs) rfl (iI_in hz hn) hd ?_
  rw [(tn_in hz hn).1, (tn_in hz hn).2]
  exact h
theorem G_cald {r n : Nat} {z : Int} (hd : decode μ.2.1 pc = .ok (.caload, 1)) (hs : sh w r = some (.inl (1, n))) (hz : 0 ≤ z ∧ z < (n : Int)) (hn : n < 2147483648) (kk : G Γ μ Ret kc ks (pc + 1) L (vI (wI w r z) :: st) w) : G Γ μ Ret kc ks pc L (vI z :: vR r :: st) w := by
  intro p e R s m args below meth c H locs Q ls C r0 P S o
  have h := kk p e R s m args below meth c H locs Q ls C r0 P S o
  show W _ _ _ _ _ _ _ _ _ _ _ _ _ _ _ (F0 m pc ls (.int (iI z) :: cv Γ (vR r) :: st.map (cv Γ)))
  rw [cv_R Γ hs]
  refine va_cald C.1 C.2.1 C.2.2.2.2.2.2.2.1.1 P r 1 (wsW_at Γ hs) rfl (iI_in hz hn) hd ?_
  rw [(tn_in hz hn).1, (tn_in hz hn).2]
  exact h
theorem G_alen {r t n : Nat} (hd : decode μ.2.1 pc = .ok (.arraylength, 1)) (hs : sh w r = some (.inl (t, n))) (ht : t < 3) (kk : G Γ μ Ret kc ks (pc + 1) L (vI (n : Int) :: st) w) : G Γ μ Ret kc ks pc L (vR r :: st) w := by
  intro p e R s m args below meth c H locs Q ls C r0 P S o
  have h := kk p e R s m args below meth c H locs Q ls C r0 P S o
  show W _ _ _ _ _ _ _ _ _ _ _ _ _ _ _ (F0 m pc ls (cv Γ (vR r) :: st.map (cv Γ)))
  rw [cv_R Γ hs]
  match t, ht with
  | 0, _ => exact va_alen C.1 C.2.1 C.2.2.2.2.2.2.2.1.1 P r 0 (wsW_at Γ hs) rfl (v := iI n) Int32.ofInt_eq_ofNat.symm hd h
  | 1, _ => exact va_alen C.1 C.2.1 C.2.2.2.2.2.2.2.1.1 P r 1 (wsW_at Γ hs) rfl (v := iI n) Int32.ofInt_eq_ofNat.symm hd h
  | 2, _ => exact va_alen C.1 C.2.1 C.2.2.2.2.2.2.2.1.1 P r 2 (wsW_at Γ hs) rfl (v := iI n) Int32.ofInt_eq_ofNat.symm hd h
theorem G_iast {r n : Nat} {z v : Int} (hd : decode μ.2.1 pc = .ok (.iastore, 1)) (hs : sh w r = some (.inl (0, n))) (hz : 0 ≤ z ∧ z < (n : Int)) (hn : n < 2147483648) (kk : G Γ μ Ret kc ks (pc + 1) L st (stI w r z v)) : G Γ μ Ret kc ks pc L (vI v :: vI z :: vR r :: st) w := by
  intro p e R s m args below meth c H locs Q ls C r0 P S o
  show W _ _ _ _ _ _ _ _ _ _ _ _ _ _ _ (F0 m pc ls (.int (iI v) :: .int (iI z) :: cv Γ (vR r) :: st.map (cv Γ)))
  rw [cv_R Γ hs]
  refine va_iast C.1 C.2.1 C.2.2.2.2.2.2.2.1.1 P (wsW_D Γ w) S.1 r 0 (wsW_at Γ hs) rfl (iI_in hz hn) hd (fun H1 locs1 a1 _ a3 => ?_)
  refine kk p e R s m args below meth c H1 locs1 Q ls C r0 ?_ ⟨a3, S.2⟩ o
  have e1 : cellE Γ (.inl (0, n)) ((stI w r z v).2.1 r) ((stI w r z v).2.2 r) = .inl (Γ.2.2.1 0, n, .inl (upd (fun k => iI (w.2.1 r k)) (iI z).toNatClampNeg (iI v))) := by
    have e0 : (fun k : Nat => iI ((stI w r z v).2.1 r k)) = upd (fun k => iI (w.2.1 r k)) (iI z).toNatClampNeg (iI v) := by
     funext k
     by_cases hk : k = (iI z).toNatClampNeg
     · subst hk
       rw [pk_us, (tn_in hz hn).1, (tn_in hz hn).2]
       show iI (if r = r ∧ z = z then v else _) = _
       rw [if_pos ⟨rfl, rfl⟩]
     · rw [pk_un hk]
       show iI (if r = r ∧ (k : Int) = z then v else _) = _
       rw [if_neg]
       rintro ⟨-, q⟩
       apply hk
       rw [(tn_in hz hn).1]
       omega
    rw [← e0]
    rfl
  rw [← e1, wsW_set (w' := stI w r z v) Γ hs rfl (fun a ha => ⟨by funext i; show (if a = r ∧ _ then _ else _) = _; rw [if_neg (fun q => ha q.1)], rfl⟩)] at a1
  exact a1
theorem iI_nar {z : Int} (h : 0 ≤ z ∧ z < 65536) : vp_nar .char (iI z) = iI z := by
  rw [vp_nar_char]
  obtain ⟨n, rfl⟩ : ∃ n : Nat, z = n := ⟨z.toNat, by omega⟩
  have hn : n < 65536 := by omega
  apply Int32.toBitVec_inj.mp
  simp only [iI, UInt32.toBitVec_toInt32, UInt16.toBitVec_toUInt32, UInt32.toBitVec_toUInt16, Int32.toBitVec_toUInt32, Int32.toBitVec_ofInt]
  apply BitVec.eq_of_toNat_eq
  simp only [BitVec.toNat_setWidth, BitVec.toNat_ofInt]
  have e1 : ((2 ^ 32 : Nat) : Int) = 4294967296 := by decide
  have e2 : (2 : Nat) ^ 16 = 65536 := by decide
  have e3 : (2 : Nat) ^ 32 = 4294967296 := by decide
  rw [e1, e2, e3]
  omega
theorem G_cast {r n : Nat} {z v : Int} (hd : decode μ.2.1 pc = .ok (.castore, 1)) (hs : sh w r = some (.inl (1, n))) (hz : 0 ≤ z ∧ z < (n : Int)) (hn : n < 2147483648) (hv : 0 ≤ v ∧ v < 65536) (kk : G Γ μ Ret kc ks (pc + 1) L st (stI w r z v)) : G Γ μ Ret kc ks pc L (vI v :: vI z :: vR r :: st) w := by
  intro p e R s m args below meth c H locs Q ls C r0 P S o
  show W _ _ _ _ _ _ _ _ _ _ _ _ _ _ _ (F0 m pc ls (.int (iI v) :: .int (iI z) :: cv Γ (vR r) :: st.map (cv Γ)))
  rw [cv_R Γ hs]
  refine va_cast C.1 C.2.1 C.2.2.2.2.2.2.2.1.1 P (wsW_D Γ w) S.1 r 1 (wsW_at Γ hs) rfl (iI_in hz hn) hd (fun H1 locs1 a1 _ a3 => ?_)
  refine kk p e R s m args below meth c H1 locs1 Q ls C r0 ?_ ⟨a3, S.2⟩ o
  have e1 : cellE Γ (.inl (1, n)) ((stI w r z v).2.1 r) ((stI w r z v).2.2 r) = .inl (Γ.2.2.1 1, n, .inl (upd (fun k => iI (w.2.1 r k)) (iI z).toNatClampNeg (vp_nar .char (iI v)))) := by
    rw [iI_nar hv]
    have e0 : (fun k : Nat => iI ((stI w r z v).2.1 r k)) = upd (fun k => iI (w.2.1 r k)) (iI z).toNatClampNeg (iI v) := by
     funext k
     by_cases hk : k = (iI z).toNatClampNeg
     · subst hk
       rw [pk_us, (tn_in hz hn).1, (tn_in hz hn).2]
       show iI (if r = r ∧ z = z then v else _) = _
       rw [if_pos ⟨rfl, rfl⟩]
     · rw [pk_un hk]
       show iI (if r = r ∧ (k : Int) = z then v else _) = _
       rw [if_neg]
       rintro ⟨-, q⟩
       apply hk
       rw [(tn_in hz hn).1]
       omega
    rw [← e0]
    rfl
  rw [← e1, wsW_set (w' := stI w r z v) Γ hs rfl (fun a ha => ⟨by funext i; show (if a = r ∧ _ then _ else _) = _; rw [if_neg (fun q => ha q.1)], rfl⟩)] at a1
  exact a1
theorem G_aald {r n q : Nat} {z : Int} (hd : decode μ.2.1 pc = .ok (.aaload, 1)) (hs : sh w r = some (.inl (2, n))) (hz : 0 ≤ z ∧ z < (n : Int)) (hn : n < 2147483648) (hq : wR w r z = vR q) (kk : G Γ μ Ret kc ks (pc + 1) L (vR q :: st) w) : G Γ μ Ret kc ks pc L (vI z :: vR r :: st) w := by
  intro p e R s m args below meth c H locs Q ls C r0 P S o
  have h := kk p e R s m args below meth c H locs Q ls C r0 P S o
  show W _ _ _ _ _ _ _ _ _ _ _ _ _ _ _ (F0 m pc ls (.int (iI z) :: cv Γ (vR r) :: st.map (cv Γ)))
  rw [cv_R Γ hs]
  refine va_aldq C.1 C.2.1 C.2.2.2.2.2.2.2.1.1 P r 2 (wsW_at Γ hs) rfl (iI_in hz hn) hd ?_
  rw [(tn_in hz hn).1, (tn_in hz hn).2]
  show W _ _ _ _ _ _ _ _ _ _ _ _ _ _ _ (F0 m (pc + 1) ls (va_rf (cvO Γ (wR w r z)) :: st.map (cv Γ)))
  rw [hq]
  exact h
theorem G_aast {r n q : Nat} {z : Int} (hd : decode μ.2.1 pc = .ok (.aastore, 1)) (hs : sh w r = some (.inl (2, n))) (hz : 0 ≤ z ∧ z < (n : Int)) (hn : n < 2147483648) (hq : sh w q = some (.inr 0)) (kk : G Γ μ Ret kc ks (pc + 1) L st (stR w r z (vR q))) : G Γ μ Ret kc ks pc L (vR q :: vI z :: vR r :: st) w := by
  intro p e R s m args below meth c H locs Q ls C r0 P S o
  show W _ _ _ _ _ _ _ _ _ _ _ _ _ _ _ (F0 m pc ls (cv Γ (vR q) :: .int (iI z) :: cv Γ (vR r) :: st.map (cv Γ)))
  rw [cv_R Γ hs, cv_R Γ hq]
  refine va_astq C.1 C.2.1 C.2.2.2.2.2.2.2.1.1 P (wsW_D Γ w) S.1 r 2 q 0 (wsW_at Γ hs) rfl (wsW_at Γ hq) rfl (iI_in hz hn) hd (fun H1 locs1 a1 _ a3 => ?_)
  refine kk p e R s m args below meth c H1 locs1 Q ls C r0 ?_ ⟨a3, S.2⟩ o
  have e1 : cellE Γ (.inl (2, n)) ((stR w r z (vR q)).2.1 r) ((stR w r z (vR q)).2.2 r) = .inl (Γ.2.2.1 2, n, .inr (.inr (.inr (.inr (va_up (fun k => cvO Γ (w.2.2 r k)) (iI z).toNatClampNeg (some (Γ.2.2.2.1 + q))))))) := by
    have e0 : (fun k : Nat => cvO Γ ((stR w r z (vR q)).2.2 r k)) = va_up (fun k => cvO Γ (w.2.2 r k)) (iI z).toNatClampNeg (some (Γ.2.2.2.1 + q)) := by
     funext k
     unfold va_up
     by_cases hk : k = (iI z).toNatClampNeg
     · rw [if_pos hk]
       show cvO Γ (if r = r ∧ (k : Int) = z then vR q else _) = _
       rw [if_pos ⟨rfl, by rw [hk, (tn_in hz hn).1, (tn_in hz hn).2]⟩]
       have := cv_R Γ hq
       show some (ad Γ q) = _
       have e2 : Value.ref (ad Γ q) = .ref (Γ.2.2.2.1 + q) := this
       injection e2 with e2
       rw [e2]
     · rw [if_neg hk]
       show cvO Γ (if r = r ∧ (k : Int) = z then vR q else _) = _
       rw [if_neg]
       rintro ⟨-, q⟩
       apply hk
       rw [(tn_in hz hn).1]
       omega
    rw [← e0]
    rfl
  rw [← e1, wsW_set (w' := stR w r z (vR q)) Γ hs rfl (fun a ha => ⟨rfl, by funext i; show (if a = r ∧ _ then _ else _) = _; rw [if_neg (fun q => ha q.1)]⟩)] at a1
  exact a1
-- the script
theorem G_sld {z : Int} (hμ : μ.1.cls = RL) (hd : decode μ.2.1 pc = .ok (.iaload, 1)) (hz : 0 ≤ z ∧ z < (Γ.2.2.2.2.2.1 : Int)) (hn : Γ.2.2.2.2.2.1 < 2147483648) (kk : G Γ μ Ret kc ks (pc + 1) L (vI (Γ.2.2.2.2.2.2 z.toNat).toInt :: st) w) : G Γ μ Ret kc ks pc L (vI z :: vR 999 :: st) w := by
  intro p e R s m args below meth c H locs Q ls C r0 P S o
  have h := kk p e R s m args below meth c H locs Q ls C r0 P S o
  obtain ⟨hX, hbl, hbA⟩ := C.2.2.2.2.2.2.2.2 hμ
  refine va_sld C.1 C.2.1 hX hbl hbA S.1 (iI_in hz hn) hd ?_
  rw [(tn_in hz hn).1]
  have e1 : vI (Γ.2.2.2.2.2.2 z.toNat).toInt = .int (Γ.2.2.2.2.2.2 z.toNat) := by unfold vI; rw [iI_of]
  rw [e1] at h
  exact h
theorem G_slen (hμ : μ.1.cls = RL) (hd : decode μ.2.1 pc = .ok (.arraylength, 1)) (kk : G Γ μ Ret kc ks (pc + 1) L (vI (Γ.2.2.2.2.2.1 : Int) :: st) w) : G Γ μ Ret kc ks pc L (vR 999 :: st) w := by
  intro p e R s m args below meth c H locs Q ls C r0 P S o
  have h := kk p e R s m args below meth c H locs Q ls C r0 P S o
  obtain ⟨hX, hbl, hbA⟩ := C.2.2.2.2.2.2.2.2 hμ
  refine va_slen C.1 C.2.1 hX hbl hbA S.1 hd ?_
  rw [← Int32.ofInt_eq_ofNat]
  exact h
end
