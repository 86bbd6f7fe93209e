/-! ===== the text that the first room is told in: the library's own members over it ===== -/
section
def m_tca : Mu := (⟨"java/lang/String", "toCharArray", "()[C"⟩, prog_12_method_129_code, 1, some (.array .char), { frames := 2, cells := 1, slots := 84, locals := 46 })
def m_isL : Mu := (⟨"java/lang/String", "isLatin1", "()Z"⟩, prog_12_method_154_code, 1, some .boolean, { frames := 0, cells := 0, slots := 0, locals := 0 })
def m_tch : Mu := (⟨"java/lang/StringLatin1", "toChars", "([B)[C"⟩, prog_13_method_9_code, 2, some (.array .char), { frames := 1, cells := 1, slots := 84, locals := 25 })
def m_inf : Mu := (⟨"java/lang/StringLatin1", "inflate", "([BI[CII)V"⟩, prog_13_method_49_code, 6, none, { frames := 0, cells := 0, slots := 0, locals := 0 })
def m_sln : Mu := (⟨"java/lang/String", "length", "()I"⟩, prog_12_method_54_code, 1, some .int, { frames := 1, cells := 0, slots := 0, locals := 20 })
def m_cod : Mu := (⟨"java/lang/String", "coder", "()B"⟩, prog_12_method_152_code, 1, some .byte, { frames := 0, cells := 0, slots := 0, locals := 0 })
theorem ts_ini : Cond.initialized "java/lang/String" ∈ TB := tb_of (i := 48) (by decide +kernel) rfl
theorem ts_in1 : Cond.initialized "java/lang/StringLatin1" ∈ TB := tb_of (i := 49) (by decide +kernel) rfl
theorem ts_com : Cond.fieldLink "java/lang/String" 38 "java/lang/String" "COMPACT_STRINGS" "Z" ∈ TB := tb_of (i := 276) (by decide +kernel) rfl
theorem ts_cof : Cond.fieldLink "java/lang/String" 15 "java/lang/String" "coder" "B" ∈ TB := tb_of (i := 1089) (by decide +kernel) rfl
theorem ts_vaf : Cond.fieldLink "java/lang/String" 9 "java/lang/String" "value" "[B" ∈ TB := tb_of (i := 1090) (by decide +kernel) rfl
theorem ml_tca : Cond.methodLink RX6 68 m_tca.1 ∈ TB := tb_of (i := 268) (by decide +kernel) rfl
theorem ml_isL : Cond.methodLink "java/lang/String" 492 m_isL.1 ∈ TB := tb_of (i := 272) (by decide +kernel) rfl
theorem ml_tch : Cond.methodLink "java/lang/String" 299 m_tch.1 ∈ TB := tb_of (i := 278) (by decide +kernel) rfl
theorem ml_inf : Cond.methodLink "java/lang/StringLatin1" 13 m_inf.1 ∈ TB := tb_of (i := 281) (by decide +kernel) rfl
theorem ml_sln : Cond.methodLink RX6 74 m_sln.1 ∈ TB := tb_of (i := 313) (by decide +kernel) rfl
theorem ml_cod : Cond.methodLink "java/lang/String" 335 m_cod.1 ∈ TB := tb_of (i := 317) (by decide +kernel) rfl
theorem mc_tca : MV m_tca 0 := ⟨⟨tb_of (i := 271) (by decide +kernel) rfl, ts_ini, by decide +kernel⟩, tb_of (i := 269) (by decide +kernel) rfl, tb_of (i := 270) (by decide +kernel) rfl⟩
theorem mc_isL : MV m_isL 0 := ⟨⟨tb_of (i := 275) (by decide +kernel) rfl, ts_ini, by decide +kernel⟩, tb_of (i := 273) (by decide +kernel) rfl, tb_of (i := 274) (by decide +kernel) rfl⟩
theorem mc_sln : MV m_sln 0 := ⟨⟨tb_of (i := 316) (by decide +kernel) rfl, ts_ini, by decide +kernel⟩, tb_of (i := 314) (by decide +kernel) rfl, tb_of (i := 315) (by decide +kernel) rfl⟩
theorem mc_cod : MV m_cod 0 := ⟨⟨tb_of (i := 320) (by decide +kernel) rfl, ts_ini, by decide +kernel⟩, tb_of (i := 318) (by decide +kernel) rfl, tb_of (i := 319) (by decide +kernel) rfl⟩
theorem mc_tch : MS m_tch 1 := ⟨⟨tb_of (i := 280) (by decide +kernel) rfl, ts_in1, by decide +kernel⟩, tb_of (i := 279) (by decide +kernel) rfl⟩
theorem mc_inf : MS m_inf 5 := ⟨⟨tb_of (i := 283) (by decide +kernel) rfl, ts_in1, by decide +kernel⟩, tb_of (i := 282) (by decide +kernel) rfl⟩
/-- the text's letters -/
def zC (k : Int) : Int := (zBy.getD k.toNat 0).toInt
def zT : Tx := (84, zC)
theorem zC_all : ∀ k : Nat, k < 84 → (32 ≤ zC k ∧ zC k ≤ 126) ∧ zand (zC k) 255 = zC k := by decide +kernel
theorem zC_r {k : Int} (h : 0 ≤ k ∧ k < 84) : (32 ≤ zC k ∧ zC k ≤ 126) ∧ zand (zC k) 255 = zC k := by
  have := zC_all k.toNat (by omega)
  rw [show ((k.toNat : Nat) : Int) = k by omega] at this
  exact this
theorem zT_ok : okX zT := ⟨⟨by decide, by decide⟩, fun k a b => (zC_r ⟨a, b⟩).1⟩
variable {Γ : Gm} {μ : Mu} {Ret : Option Value → Wd → Prop} {kc ks pc : Nat} {L : List (Option Value)} {st : List Value} {w : Wd}
theorem G_zldc (hd : decode μ.2.1 pc = .ok (.ldc 66, 2)) (ho : μ.1.cls = RX6) (kk : G Γ μ Ret kc ks (pc + 2) L (vR 998 :: st) w) : G Γ μ Ret kc ks pc L st w := by
  intro p e R s m args below meth c H locs Q ls C r0 P S o
  have h := kk p e R s m args below meth c H locs Q ls C r0 P S o
  have hz := C.2.2.2.2.2.2.2.1.2.2.2
  exact va_ldcS (tx := zTx) (q := Γ.2.2.1 3) (own := μ.1.cls) C.1 C.2.1 C.2.2.2.1 (by rw [ho]; exact hz.1) hd h
theorem G_zcod {idx : Nat} (hd : decode μ.2.1 pc = .ok (.getfield idx, 3)) (hl : Cond.fieldLink μ.1.cls idx "java/lang/String" "coder" "B" ∈ TB) (kk : G Γ μ Ret kc ks (pc + 3) L (vI 0 :: st) w) : G Γ μ Ret kc ks pc L (vR 998 :: st) w := by
  intro p e R s m args below meth c H locs Q ls C r0 P S o
  have h := kk p e R s m args below meth c H locs Q ls C r0 P S o
  have hz := C.2.2.2.2.2.2.2.1.2.2.2
  have h2 : W p Γ.1 e R s m args below meth c H locs kc ks Q (F0 m (pc + 3) ls (.int 0 :: st.map (cv Γ))) := by rw [← iI_0]; exact h
  exact vk_getf (q := Γ.2.2.1 3) C.1 C.2.1 ((hz.2.1.1 0 (by decide)).2.1) S.1 C.2.2.2.1 (C.2.2.2.2.1 _ hl) (fun x hx => hx) hd h2
theorem G_zval {idx : Nat} (hd : decode μ.2.1 pc = .ok (.getfield idx, 3)) (hl : Cond.fieldLink μ.1.cls idx "java/lang/String" "value" "[B" ∈ TB) (kk : G Γ μ Ret kc ks (pc + 3) L (vR 997 :: st) w) : G Γ μ Ret kc ks pc L (vR 998 :: st) w := by
  intro p e R s m args below meth c H locs Q ls C r0 P S o
  have h := kk p e R s m args below meth c H locs Q ls C r0 P S o
  have hz := C.2.2.2.2.2.2.2.1.2.2.2
  exact vk_getf (q := Γ.2.2.1 3) C.1 C.2.1 ((hz.2.1.1 0 (by decide)).2.2.1) S.1 C.2.2.2.1 (C.2.2.2.2.1 _ hl) (fun x hx => hx) hd h
theorem G_zlen (hd : decode μ.2.1 pc = .ok (.arraylength, 1)) (kk : G Γ μ Ret kc ks (pc + 1) L (vI 84 :: st) w) : G Γ μ Ret kc ks pc L (vR 997 :: st) w := by
  intro p e R s m args below meth c H locs Q ls C r0 P S o
  have h := kk p e R s m args below meth c H locs Q ls C r0 P S o
  have hz := C.2.2.2.2.2.2.2.1.2.2.2
  exact va_tlen (t := Γ.2.2.1 4) (v := iI 84) C.1 C.2.1 ((hz.2.1.1 0 (by decide)).2.2.2) S.1 (by decide +kernel) hd h
theorem G_zbal {z : Int} (hd : decode μ.2.1 pc = .ok (.baload, 1)) (hz : 0 ≤ z ∧ z < 84) (kk : G Γ μ Ret kc ks (pc + 1) L (vI (zC z) :: st) w) : G Γ μ Ret kc ks pc L (vI z :: vR 997 :: st) w := by
  intro p e R s m args below meth c H locs Q ls C r0 P S o
  have h := kk p e R s m args below meth c H locs Q ls C r0 P S o
  have hs := C.2.2.2.2.2.2.2.1.2.2.2
  refine va_tb (t := Γ.2.2.1 4) (v := vI (zC z)) C.1 C.2.1 ((hs.2.1.1 0 (by decide)).2.2.2) S.1 (iI_in (n := 84) hz (by decide)) ?_ hd h
  show Value.int (zBy.getD (iI z).toNatClampNeg 0) = Value.int (iI (zC z))
  rw [(tn_in (n := 84) hz (by decide)).1]
  unfold zC
  rw [iI_of]
theorem G_zcom (hd : decode μ.2.1 pc = .ok (.getstatic 38, 3)) (ho : μ.1.cls = "java/lang/String") (kk : G Γ μ Ret kc ks (pc + 3) L (vI 1 :: st) w) : G Γ μ Ret kc ks pc L st w := by
  intro p e R s m args below meth c H locs Q ls C r0 P S o
  have h := kk p e R s m args below meth c H locs Q ls C r0 P S o
  have hz := C.2.2.2.2.2.2.2.1.2.2.2
  have e1 : iI 1 = 1 := by decide +kernel
  have h2 : W p Γ.1 e R s m args below meth c H locs kc ks Q (F0 m (pc + 3) ls (.int 1 :: st.map (cv Γ))) := by rw [← e1]; exact h
  exact va_gets (own := μ.1.cls) C.1 C.2.1 hz.2.2 S.1 C.2.2.2.1 (C.2.2.2.2.1 _ (by rw [ho]; exact ts_com)) (fun x hx => hx) hd h2
theorem G_zcall {idx n : Nat} {y : Mu} {Q : Option Value → Wd → Prop} (hd : decode μ.2.1 pc = .ok (.invokevirtual idx, 3)) (hl : Cond.methodLink μ.1.cls idx y.1 ∈ TB) (hy : y.1.cls = "java/lang/String") (hm : MV y 0) (hr : RF μ y kc ks st) (hS : Sp Γ y [vR 998] w Q) (k : ∀ v w', Q v w' → G Γ μ Ret (kc + y.2.2.2.2.cells) (ks + y.2.2.2.2.slots) (pc + 3) L (v.toList ++ st) w') : G Γ μ Ret kc ks pc L (vR 998 :: st) w := by
  intro p e R s m args below meth c H locs Q0 ls C r0 P S o T hT X
  have hsz := size_of X hT P S
  have hts := C.2.2.2.2.1
  have hz := C.2.2.2.2.2.2.2.1.2.2.2
  have hrc : ∃ cell : Cell, H[Γ.2.2.1 3]? = some cell ∧ cell.vm.isStatics = false ∧ s.vm.findClass y.1.cls = some cell.cls := by
    rw [hy]
    exact vk_recv (i := 0) hz.2.1 (by decide) S.1
  have hp : PreV s H y.1.cls (Γ.2.2.1 3) (va_Pc ([vR 998].map (cv Γ)) (fun U => PU Γ w U ∧ U.heap.size = Γ.2.2.2.1 + w.1)) ([].map (cv Γ)) := ⟨blind [vR 998], hrc, fun U hU hW => ⟨rfl, ⟨by rw [hU]; exact P, PK.warm hW (by rw [hU]; exact S.1.2.1) C.2.2.2.2.2.2.2.1⟩, by rw [hU]; exact hsz⟩⟩
  have hcat := lv_room (m := m) (pc := pc) (ls := ls) (rest := (vR 998 :: st).map (cv Γ)) (st := st.map (cv Γ)) (by rw [cat_sum]; exact hr.2.2)
  have hrun : va_Run p Γ.1 e R s m args below meth c H locs kc ks y.2.2.2.2.cells y.2.2.2.2.slots (F0 m pc ls ((vR 998 :: st).map (cv Γ))) (st.map (cv Γ)) (SpQ Γ y w Q (Value.ref (Γ.2.2.1 3) :: [].map (cv Γ)).toArray) (Ab Γ) := by
    obtain ⟨⟨m1, m2, m3⟩, m4, m5⟩ := hm
    exact va_runV (As := [].map (cv Γ)) ⟨C.1, C.2.1, C.2.2.1, C.2.2.2.1, hts⟩ hS ⟨callB_of 0 hts (tb_goodM m1) rfl rfl rfl (hts _ m2) (hts _ hl) m3 (by rw [C.2.2.2.2.2.1]; exact hr.1), hts _ m4, hts _ m5⟩ hp rfl rfl o.2.1 rfl hcat hd (by rw [C.2.2.2.2.2.1]; exact hr.2.1)
  refine call_on hrun S (fun v w' H1 locs1 hq hP hS1 => ?_) T hT X
  have h := k v w' hq p e R s m args below meth c H1 locs1 Q0 ls C r0 hP hS1 o
  have e1 : (v.toList ++ st).map (cv Γ) = (v.map (cv Γ)).toList ++ st.map (cv Γ) := by cases v <;> simp
  rw [e1] at h
  exact h
theorem sp_isL : SpP Γ m_isL [vR 998] w 1 := by
  refine Sp_intro (by decide +kernel) (by decide +kernel) (Nat.le_of_ble_eq_true rfl) (by simp [Value.category]) ?_
  refine G_zcom (by decide +kernel) rfl ?_
  refine G_if_eq (off := 14) (tgt := 17) (by decide +kernel) (by decide) (by decide) (fun q => absurd q (by decide)) (fun _ => ?_)
  refine G_aload_n (i := 0) (x := 998) (by decide +kernel) rfl ?_
  refine G_zcod (by decide +kernel) ts_cof ?_
  refine G_if_ne (off := 7) (tgt := 17) (by decide +kernel) (by decide) (by decide) (fun q => absurd rfl q) (fun _ => ?_)
  refine G_const (n := 1) (by decide +kernel) ?_
  refine G_goto (off := 4) (tgt := 18) (by decide +kernel) (by decide) ?_
  exact G_reti (by decide +kernel) (Or.inr rfl) ⟨rfl, Nat.le_of_ble_eq_true rfl⟩ (rp rfl)
theorem sp_cod : SpP Γ m_cod [vR 998] w 0 := by
  refine Sp_intro (by decide +kernel) (by decide +kernel) (Nat.le_of_ble_eq_true rfl) (by simp [Value.category]) ?_
  refine G_zcom (by decide +kernel) rfl ?_
  refine G_if_eq (off := 10) (tgt := 13) (by decide +kernel) (by decide) (by decide) (fun q => absurd q (by decide)) (fun _ => ?_)
  refine G_aload_n (i := 0) (x := 998) (by decide +kernel) rfl ?_
  refine G_zcod (by decide +kernel) ts_cof ?_
  refine G_goto (off := 4) (tgt := 14) (by decide +kernel) (by decide) ?_
  exact G_reti (by decide +kernel) rfl ⟨rfl, Nat.le_of_ble_eq_true rfl⟩ (rp rfl)
theorem sp_sln : SpP Γ m_sln [vR 998] w 84 := by
  refine Sp_intro (by decide +kernel) (by decide +kernel) (Nat.le_of_ble_eq_true rfl) (by simp [Value.category]) ?_
  refine G_aload_n (i := 0) (x := 998) (by decide +kernel) rfl ?_
  refine G_zval (by decide +kernel) ts_vaf ?_
  refine G_zlen (by decide +kernel) ?_
  refine G_aload_n (i := 0) (x := 998) (by decide +kernel) rfl ?_
  refine G_zcall (n := 0) (by decide +kernel) ml_cod rfl mc_cod ⟨by decide, by decide, by decide⟩ sp_cod (fun v w' hv => ?_)
  obtain ⟨z, rfl, rfl, rfl⟩ := hv
  refine G_ishr (x := 84) (y := 0) (by decide +kernel) ?_
  exact G_reti (by decide +kernel) trivial ⟨rfl, Nat.le_of_ble_eq_true rfl⟩ (rp (by decide +kernel))
theorem inf_loop {c : Nat} {Ret : Option Value → Wd → Prop} (kr : ∀ u, Fr (fun a => a = c) w u → (∀ j : Int, 0 ≤ j → j < 84 → wI u c j = zC j) → Ret none u) (hs : sh w c = some (.inl (1, 84))) : ∀ (n : Nat) (k : Int) (u : Wd), 0 ≤ k → k + n = 84 → Fr (fun a => a = c) w u → (∀ j : Int, 0 ≤ j → j < k → wI u c j = zC j) → G Γ m_inf Ret 0 0 3 [some (vR 997), some (vI k), some (vR c), some (vI k), some (vI 84), some (vI k)] [] u := by
  intro n
  induction n with
  | zero =>
    intro k u k0 hk hF hz
    have e : k = 84 := by omega
    subst e
    refine G_iload (i := 5) (z := 84) (by decide +kernel) rfl ?_
    refine G_iload (i := 4) (z := 84) (by decide +kernel) rfl ?_
    refine G_icmp_ge (off := 26) (tgt := 33) (by decide +kernel) (by decide) (by decide) (by decide) (fun _ => ?_) (fun q => absurd (by decide) q)
    exact G_retv (by decide +kernel) trivial ⟨rfl, Nat.le_of_ble_eq_true rfl⟩ (kr u hF hz)
  | succ n ih =>
    intro k u k0 hk hF hz
    have hr := zC_r (k := k) (by omega)
    have hsu : sh u c = some (.inl (1, 84)) := by rw [hF.sh]; exact hs
    refine G_iload (i := 5) (z := k) (by decide +kernel) rfl ?_
    refine G_iload (i := 4) (z := 84) (by decide +kernel) rfl ?_
    refine G_icmp_ge (off := 26) (tgt := 33) (by decide +kernel) (by decide) ⟨by omega, by omega⟩ (by decide) (fun q => absurd q (by omega)) (fun _ => ?_)
    refine G_aload_n (i := 2) (x := c) (by decide +kernel) rfl ?_
    refine G_iload_n (i := 3) (z := k) (by decide +kernel) rfl ?_
    refine G_iinc (i := 3) (n := 1) (z := k) (by decide +kernel) (by decide) rfl rfl ?_
    refine G_aload_n (i := 0) (x := 997) (by decide +kernel) rfl ?_
    refine G_iload_n (i := 1) (z := k) (by decide +kernel) rfl ?_
    refine G_iinc (i := 1) (n := 1) (z := k) (by decide +kernel) (by decide) rfl rfl ?_
    refine G_zbal (by decide +kernel) (by omega) ?_
    refine G_sipush (n := 255) (by decide +kernel) (by decide +kernel) ?_
    refine G_iand (by decide +kernel) ?_
    rw [hr.2]
    refine G_i2c (by decide +kernel) (by omega) ?_
    refine G_cast (n := 84) (by decide +kernel) hsu (by omega) (by decide) (by omega) ?_
    refine G_iinc (i := 5) (n := 1) (z := k) (by decide +kernel) (by decide) rfl rfl ?_
    refine G_goto (off := -27) (tgt := 3) (by decide +kernel) (by decide) ?_
    refine ih (k + 1) _ (by omega) (by omega) (hF.trans (Fr.st rfl)) (fun j j0 j1 => ?_)
    by_cases e : j = k
    · rw [e, wI_hit]
    · rw [wI_skip e]; exact hz j j0 (by omega)
theorem sp_inf {c : Nat} (hs : sh w c = some (.inl (1, 84))) : SpV Γ m_inf [vR 997, vI 0, vR c, vI 0, vI 84] w (fun u => Fr (fun a => a = c) w u ∧ ∀ j : Int, 0 ≤ j → j < 84 → wI u c j = zC j) := by
  refine Sp_intro (by decide +kernel) (by decide +kernel) (Nat.le_of_ble_eq_true rfl) (by simp [Value.category]) ?_
  refine G_const (n := 0) (by decide +kernel) ?_
  refine G_istore (i := 5) (z := 0) (by decide +kernel) (by decide) rfl ?_
  exact inf_loop (w := w) (fun u h1 h2 => ⟨rfl, h1, h2⟩) hs 84 0 w (by decide) (by decide) Fr.rfl (fun j a b => by omega)
/-- a new array of the text's letters -/
def ZQ (w : Wd) : Nat → Wd → Prop := fun r u => r = w.1 ∧ Fr (fun a => a = w.1) (nwW w) u ∧ ∀ j : Int, 0 ≤ j → j < 84 → wI u w.1 j = zC j
theorem sp_tch (h0 : shp[w.1]? = some (.inl (1, 84))) : SpR Γ m_tch [vR 997] w (ZQ w) := by
  have hs : sh (nwW w) w.1 = some (.inl (1, 84)) := by
    show (if w.1 < w.1 + 1 then shp[w.1]? else none) = _
    rw [if_pos (by omega)]; exact h0
  refine Sp_intro (by decide +kernel) (by decide +kernel) (Nat.le_of_ble_eq_true rfl) (by simp [Value.category]) ?_
  refine G_aload_n (i := 0) (x := 997) (by decide +kernel) rfl ?_
  refine G_zlen (by decide +kernel) ?_
  refine G_newarr (at0 := .char) (n := 84) (t := 1) (ty := .char) (by decide +kernel) (by decide) rfl tb_124 h0 (by decide) (by decide) ?_
  refine G_astore_n (i := 1) (x := w.1) (by decide +kernel) (by decide) rfl ?_
  refine G_aload_n (i := 0) (x := 997) (by decide +kernel) rfl ?_
  refine G_const (n := 0) (by decide +kernel) ?_
  refine G_aload_n (i := 1) (x := w.1) (by decide +kernel) rfl ?_
  refine G_const (n := 0) (by decide +kernel) ?_
  refine G_aload_n (i := 0) (x := 997) (by decide +kernel) rfl ?_
  refine G_zlen (by decide +kernel) ?_
  refine G_SV (as := [vR 997, vI 0, vR w.1, vI 0, vI 84]) (st := []) ⟨rfl, rfl⟩ (by decide +kernel) (Or.inl ml_inf) mc_inf rfl ⟨by decide, by decide, by decide⟩ (sp_inf hs) (fun u hu => ?_)
  refine G_aload_n (i := 1) (x := w.1) (by decide +kernel) rfl ?_
  exact G_retr (by decide +kernel) trivial ⟨rfl, Nat.le_of_ble_eq_true rfl⟩ ⟨_, rfl, rfl, hu⟩
theorem sp_tca (h0 : shp[w.1]? = some (.inl (1, 84))) : SpR Γ m_tca [vR 998] w (ZQ w) := by
  refine Sp_intro (by decide +kernel) (by decide +kernel) (Nat.le_of_ble_eq_true rfl) (by simp [Value.category]) ?_
  refine G_aload_n (i := 0) (x := 998) (by decide +kernel) rfl ?_
  refine G_zcall (n := 0) (by decide +kernel) ml_isL rfl mc_isL ⟨by decide, by decide, by decide⟩ sp_isL (fun v w' hv => ?_)
  obtain ⟨z, rfl, rfl, rfl⟩ := hv
  refine G_if_eq (off := 13) (tgt := 17) (by decide +kernel) (by decide) (by decide) (fun q => absurd q (by decide)) (fun _ => ?_)
  refine G_aload_n (i := 0) (x := 998) (by decide +kernel) rfl ?_
  refine G_zval (by decide +kernel) ts_vaf ?_
  refine G_callS (as := [vR 997]) (st := []) (by decide +kernel) (Or.inl ml_tch) mc_tch rfl ⟨by decide, by decide, by decide⟩ (sp_tch h0) (fun v u hv => ?_)
  obtain ⟨r, rfl, hq⟩ := hv
  refine G_goto (off := 10) (tgt := 24) (by decide +kernel) (by decide) ?_
  exact G_retr (by decide +kernel) trivial ⟨rfl, Nat.le_of_ble_eq_true rfl⟩ ⟨_, rfl, hq⟩
end
