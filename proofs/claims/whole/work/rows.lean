section
-- ===== PART A: goes FIRST, ahead of the names: the tables' words, and 'selects' of the private methods out of them =====
/-- a private method of a class that the tables say can be made, by its rows of tables_1 -/
def lw_okq (q : MethodName × Nat) : Prop := (q.1.cls ≠ "java/lang/invoke/MethodHandle" ∧ q.1.cls ≠ "java/lang/invoke/VarHandle") ∧ Cond.instantiable q.1.cls q.2 ∈ tables_1 ∧ Cond.privateMethod q.1 ∈ tables_1 ∧ Cond.instanceMethod q.1 ∈ tables_1
theorem lw_p0 : lw_okq (⟨"StretchedCarpet$Room", "clear", "()V"⟩, 13) := ⟨⟨by decide +kernel, by decide +kernel⟩, List.mem_of_getElem? (i := 24) (by decide +kernel), List.mem_of_getElem? (i := 30) (by decide +kernel), List.mem_of_getElem? (i := 31) (by decide +kernel)⟩
theorem lw_p1 : lw_okq (⟨"StretchedCarpet$Room", "readNumbers", "([CII)I"⟩, 13) := ⟨⟨by decide +kernel, by decide +kernel⟩, List.mem_of_getElem? (i := 24) (by decide +kernel), List.mem_of_getElem? (i := 287) (by decide +kernel), List.mem_of_getElem? (i := 288) (by decide +kernel)⟩
theorem lw_p2 : lw_okq (⟨"StretchedCarpet$Room", "takeItem", "(I)Z"⟩, 13) := ⟨⟨by decide +kernel, by decide +kernel⟩, List.mem_of_getElem? (i := 24) (by decide +kernel), List.mem_of_getElem? (i := 310) (by decide +kernel), List.mem_of_getElem? (i := 311) (by decide +kernel)⟩
theorem lw_p3 : lw_okq (⟨"StretchedCarpet$Room", "takeStrip", "(III)Z"⟩, 13) := ⟨⟨by decide +kernel, by decide +kernel⟩, List.mem_of_getElem? (i := 24) (by decide +kernel), List.mem_of_getElem? (i := 317) (by decide +kernel), List.mem_of_getElem? (i := 318) (by decide +kernel)⟩
theorem lw_p4 : lw_okq (⟨"StretchedCarpet$Room", "takeDamp", "(I)Z"⟩, 13) := ⟨⟨by decide +kernel, by decide +kernel⟩, List.mem_of_getElem? (i := 24) (by decide +kernel), List.mem_of_getElem? (i := 321) (by decide +kernel), List.mem_of_getElem? (i := 322) (by decide +kernel)⟩
theorem lw_p5 : lw_okq (⟨"StretchedCarpet$Shelf", "rowAt", "(I)LStretchedCarpet$Carpet;"⟩, 3) := ⟨⟨by decide +kernel, by decide +kernel⟩, List.mem_of_getElem? (i := 134) (by decide +kernel), List.mem_of_getElem? (i := 459) (by decide +kernel), List.mem_of_getElem? (i := 460) (by decide +kernel)⟩
theorem lw_p6 : lw_okq (⟨"StretchedCarpet$CutPlan", "choose", "(LStretchedCarpet$Room;I)V"⟩, 8) := ⟨⟨by decide +kernel, by decide +kernel⟩, List.mem_of_getElem? (i := 178) (by decide +kernel), List.mem_of_getElem? (i := 546) (by decide +kernel), List.mem_of_getElem? (i := 547) (by decide +kernel)⟩
theorem lw_p7 : lw_okq (⟨"StretchedCarpet$CutPlan", "isLess", "(III)Z"⟩, 8) := ⟨⟨by decide +kernel, by decide +kernel⟩, List.mem_of_getElem? (i := 178) (by decide +kernel), List.mem_of_getElem? (i := 555) (by decide +kernel), List.mem_of_getElem? (i := 556) (by decide +kernel)⟩
theorem lw_p8 : lw_okq (⟨"StretchedCarpet$HookOrder", "isOrder", "(LStretchedCarpet$Carpet;I)Z"⟩, 3) := ⟨⟨by decide +kernel, by decide +kernel⟩, List.mem_of_getElem? (i := 212) (by decide +kernel), List.mem_of_getElem? (i := 572) (by decide +kernel), List.mem_of_getElem? (i := 573) (by decide +kernel)⟩
theorem lw_p9 : lw_okq (⟨"StretchedCarpet$HookOrder", "wallIn", "(II)I"⟩, 3) := ⟨⟨by decide +kernel, by decide +kernel⟩, List.mem_of_getElem? (i := 212) (by decide +kernel), List.mem_of_getElem? (i := 576) (by decide +kernel), List.mem_of_getElem? (i := 577) (by decide +kernel)⟩
theorem lw_p10 : lw_okq (⟨"StretchedCarpet$HookOrder", "kicksOf", "(LStretchedCarpet$Room;LStretchedCarpet$Carpet;LStretchedCarpet$Carpet;I)I"⟩, 3) := ⟨⟨by decide +kernel, by decide +kernel⟩, List.mem_of_getElem? (i := 212) (by decide +kernel), List.mem_of_getElem? (i := 580) (by decide +kernel), List.mem_of_getElem? (i := 581) (by decide +kernel)⟩
theorem lw_p11 : lw_okq (⟨"StretchedCarpet$Sightings", "explainedBy", "(II)Z"⟩, 3) := ⟨⟨by decide +kernel, by decide +kernel⟩, List.mem_of_getElem? (i := 157) (by decide +kernel), List.mem_of_getElem? (i := 633) (by decide +kernel), List.mem_of_getElem? (i := 634) (by decide +kernel)⟩
theorem lw_p12 : lw_okq (⟨"StretchedCarpetModel", "addStrip", "(IIII)V"⟩, 27) := ⟨⟨by decide +kernel, by decide +kernel⟩, List.mem_of_getElem? (i := 715) (by decide +kernel), List.mem_of_getElem? (i := 721) (by decide +kernel), List.mem_of_getElem? (i := 722) (by decide +kernel)⟩
theorem lw_p13 : lw_okq (⟨"StretchedCarpetModel", "isItem", "()Z"⟩, 27) := ⟨⟨by decide +kernel, by decide +kernel⟩, List.mem_of_getElem? (i := 715) (by decide +kernel), List.mem_of_getElem? (i := 822) (by decide +kernel), List.mem_of_getElem? (i := 823) (by decide +kernel)⟩
theorem lw_p14 : lw_okq (⟨"StretchedCarpetModel", "letterAt", "(I)I"⟩, 27) := ⟨⟨by decide +kernel, by decide +kernel⟩, List.mem_of_getElem? (i := 715) (by decide +kernel), List.mem_of_getElem? (i := 826) (by decide +kernel), List.mem_of_getElem? (i := 827) (by decide +kernel)⟩
theorem lw_p15 : lw_okq (⟨"StretchedCarpetModel", "isStripItem", "()Z"⟩, 27) := ⟨⟨by decide +kernel, by decide +kernel⟩, List.mem_of_getElem? (i := 715) (by decide +kernel), List.mem_of_getElem? (i := 830) (by decide +kernel), List.mem_of_getElem? (i := 831) (by decide +kernel)⟩
def lw_privs_1 : List (MethodName × Nat) := [(⟨"StretchedCarpet$Room", "clear", "()V"⟩, 13), (⟨"StretchedCarpet$Room", "readNumbers", "([CII)I"⟩, 13), (⟨"StretchedCarpet$Room", "takeItem", "(I)Z"⟩, 13), (⟨"StretchedCarpet$Room", "takeStrip", "(III)Z"⟩, 13), (⟨"StretchedCarpet$Room", "takeDamp", "(I)Z"⟩, 13), (⟨"StretchedCarpet$Shelf", "rowAt", "(I)LStretchedCarpet$Carpet;"⟩, 3), (⟨"StretchedCarpet$CutPlan", "choose", "(LStretchedCarpet$Room;I)V"⟩, 8), (⟨"StretchedCarpet$CutPlan", "isLess", "(III)Z"⟩, 8), (⟨"StretchedCarpet$HookOrder", "isOrder", "(LStretchedCarpet$Carpet;I)Z"⟩, 3), (⟨"StretchedCarpet$HookOrder", "wallIn", "(II)I"⟩, 3), (⟨"StretchedCarpet$HookOrder", "kicksOf", "(LStretchedCarpet$Room;LStretchedCarpet$Carpet;LStretchedCarpet$Carpet;I)I"⟩, 3), (⟨"StretchedCarpet$Sightings", "explainedBy", "(II)Z"⟩, 3), (⟨"StretchedCarpetModel", "addStrip", "(IIII)V"⟩, 27), (⟨"StretchedCarpetModel", "isItem", "()Z"⟩, 27), (⟨"StretchedCarpetModel", "letterAt", "(I)I"⟩, 27), (⟨"StretchedCarpetModel", "isStripItem", "()Z"⟩, 27)]
theorem lw_r1 : ∀ q ∈ lw_privs_1, lw_okq q := List.forall_mem_cons.mpr ⟨lw_p0, List.forall_mem_cons.mpr ⟨lw_p1, List.forall_mem_cons.mpr ⟨lw_p2, List.forall_mem_cons.mpr ⟨lw_p3, List.forall_mem_cons.mpr ⟨lw_p4, List.forall_mem_cons.mpr ⟨lw_p5, List.forall_mem_cons.mpr ⟨lw_p6, List.forall_mem_cons.mpr ⟨lw_p7, List.forall_mem_cons.mpr ⟨lw_p8, List.forall_mem_cons.mpr ⟨lw_p9, List.forall_mem_cons.mpr ⟨lw_p10, List.forall_mem_cons.mpr ⟨lw_p11, List.forall_mem_cons.mpr ⟨lw_p12, List.forall_mem_cons.mpr ⟨lw_p13, List.forall_mem_cons.mpr ⟨lw_p14, List.forall_mem_cons.mpr ⟨lw_p15, fun _ h => absurd h List.not_mem_nil⟩⟩⟩⟩⟩⟩⟩⟩⟩⟩⟩⟩⟩⟩⟩⟩
theorem lw_p16 : lw_okq (⟨"StretchedCarpetModel", "isNumber", "(III)Z"⟩, 27) := ⟨⟨by decide +kernel, by decide +kernel⟩, List.mem_of_getElem? (i := 715) (by decide +kernel), List.mem_of_getElem? (i := 834) (by decide +kernel), List.mem_of_getElem? (i := 835) (by decide +kernel)⟩
theorem lw_p17 : lw_okq (⟨"StretchedCarpetModel", "isPair", "(IIIII)Z"⟩, 27) := ⟨⟨by decide +kernel, by decide +kernel⟩, List.mem_of_getElem? (i := 715) (by decide +kernel), List.mem_of_getElem? (i := 838) (by decide +kernel), List.mem_of_getElem? (i := 839) (by decide +kernel)⟩
theorem lw_p18 : lw_okq (⟨"StretchedCarpetModel", "isOne", "(III)Z"⟩, 27) := ⟨⟨by decide +kernel, by decide +kernel⟩, List.mem_of_getElem? (i := 715) (by decide +kernel), List.mem_of_getElem? (i := 842) (by decide +kernel), List.mem_of_getElem? (i := 843) (by decide +kernel)⟩
theorem lw_p19 : lw_okq (⟨"StretchedCarpetModel", "isDampItem", "()Z"⟩, 27) := ⟨⟨by decide +kernel, by decide +kernel⟩, List.mem_of_getElem? (i := 715) (by decide +kernel), List.mem_of_getElem? (i := 846) (by decide +kernel), List.mem_of_getElem? (i := 847) (by decide +kernel)⟩
theorem lw_p20 : lw_okq (⟨"StretchedCarpetModel", "lengthOf", "(I)I"⟩, 27) := ⟨⟨by decide +kernel, by decide +kernel⟩, List.mem_of_getElem? (i := 715) (by decide +kernel), List.mem_of_getElem? (i := 862) (by decide +kernel), List.mem_of_getElem? (i := 863) (by decide +kernel)⟩
theorem lw_p21 : lw_okq (⟨"StretchedCarpetModel", "dampBy", "(I)I"⟩, 27) := ⟨⟨by decide +kernel, by decide +kernel⟩, List.mem_of_getElem? (i := 715) (by decide +kernel), List.mem_of_getElem? (i := 880) (by decide +kernel), List.mem_of_getElem? (i := 881) (by decide +kernel)⟩
theorem lw_p22 : lw_okq (⟨"StretchedCarpetModel", "longFor", "(II)I"⟩, 27) := ⟨⟨by decide +kernel, by decide +kernel⟩, List.mem_of_getElem? (i := 715) (by decide +kernel), List.mem_of_getElem? (i := 891) (by decide +kernel), List.mem_of_getElem? (i := 892) (by decide +kernel)⟩
theorem lw_p23 : lw_okq (⟨"StretchedCarpetModel", "rollIn", "([I)I"⟩, 27) := ⟨⟨by decide +kernel, by decide +kernel⟩, List.mem_of_getElem? (i := 715) (by decide +kernel), List.mem_of_getElem? (i := 895) (by decide +kernel), List.mem_of_getElem? (i := 896) (by decide +kernel)⟩
theorem lw_p24 : lw_okq (⟨"StretchedCarpetModel", "note", "()V"⟩, 27) := ⟨⟨by decide +kernel, by decide +kernel⟩, List.mem_of_getElem? (i := 715) (by decide +kernel), List.mem_of_getElem? (i := 899) (by decide +kernel), List.mem_of_getElem? (i := 900) (by decide +kernel)⟩
theorem lw_p25 : lw_okq (⟨"StretchedCarpetModel", "isCovered", "()Z"⟩, 27) := ⟨⟨by decide +kernel, by decide +kernel⟩, List.mem_of_getElem? (i := 715) (by decide +kernel), List.mem_of_getElem? (i := 907) (by decide +kernel), List.mem_of_getElem? (i := 908) (by decide +kernel)⟩
theorem lw_p26 : lw_okq (⟨"StretchedCarpetModel", "kick", "([III)V"⟩, 27) := ⟨⟨by decide +kernel, by decide +kernel⟩, List.mem_of_getElem? (i := 715) (by decide +kernel), List.mem_of_getElem? (i := 914) (by decide +kernel), List.mem_of_getElem? (i := 915) (by decide +kernel)⟩
theorem lw_p27 : lw_okq (⟨"StretchedCarpetModel", "tightBy", "([III)I"⟩, 27) := ⟨⟨by decide +kernel, by decide +kernel⟩, List.mem_of_getElem? (i := 715) (by decide +kernel), List.mem_of_getElem? (i := 918) (by decide +kernel), List.mem_of_getElem? (i := 919) (by decide +kernel)⟩
theorem lw_p28 : lw_okq (⟨"StretchedCarpetModel", "passMonth", "([I)V"⟩, 27) := ⟨⟨by decide +kernel, by decide +kernel⟩, List.mem_of_getElem? (i := 715) (by decide +kernel), List.mem_of_getElem? (i := 939) (by decide +kernel), List.mem_of_getElem? (i := 940) (by decide +kernel)⟩
theorem lw_p29 : lw_okq (⟨"StretchedCarpetModel", "layPlan", "()V"⟩, 27) := ⟨⟨by decide +kernel, by decide +kernel⟩, List.mem_of_getElem? (i := 715) (by decide +kernel), List.mem_of_getElem? (i := 951) (by decide +kernel), List.mem_of_getElem? (i := 952) (by decide +kernel)⟩
theorem lw_p30 : lw_okq (⟨"StretchedCarpetModel", "covers", "(II)Z"⟩, 27) := ⟨⟨by decide +kernel, by decide +kernel⟩, List.mem_of_getElem? (i := 715) (by decide +kernel), List.mem_of_getElem? (i := 955) (by decide +kernel), List.mem_of_getElem? (i := 956) (by decide +kernel)⟩
theorem lw_p31 : lw_okq (⟨"StretchedCarpetModel", "seamAt", "(I)I"⟩, 27) := ⟨⟨by decide +kernel, by decide +kernel⟩, List.mem_of_getElem? (i := 715) (by decide +kernel), List.mem_of_getElem? (i := 959) (by decide +kernel), List.mem_of_getElem? (i := 960) (by decide +kernel)⟩
def lw_privs_2 : List (MethodName × Nat) := [(⟨"StretchedCarpetModel", "isNumber", "(III)Z"⟩, 27), (⟨"StretchedCarpetModel", "isPair", "(IIIII)Z"⟩, 27), (⟨"StretchedCarpetModel", "isOne", "(III)Z"⟩, 27), (⟨"StretchedCarpetModel", "isDampItem", "()Z"⟩, 27), (⟨"StretchedCarpetModel", "lengthOf", "(I)I"⟩, 27), (⟨"StretchedCarpetModel", "dampBy", "(I)I"⟩, 27), (⟨"StretchedCarpetModel", "longFor", "(II)I"⟩, 27), (⟨"StretchedCarpetModel", "rollIn", "([I)I"⟩, 27), (⟨"StretchedCarpetModel", "note", "()V"⟩, 27), (⟨"StretchedCarpetModel", "isCovered", "()Z"⟩, 27), (⟨"StretchedCarpetModel", "kick", "([III)V"⟩, 27), (⟨"StretchedCarpetModel", "tightBy", "([III)I"⟩, 27), (⟨"StretchedCarpetModel", "passMonth", "([I)V"⟩, 27), (⟨"StretchedCarpetModel", "layPlan", "()V"⟩, 27), (⟨"StretchedCarpetModel", "covers", "(II)Z"⟩, 27), (⟨"StretchedCarpetModel", "seamAt", "(I)I"⟩, 27)]
theorem lw_r2 : ∀ q ∈ lw_privs_2, lw_okq q := List.forall_mem_cons.mpr ⟨lw_p16, List.forall_mem_cons.mpr ⟨lw_p17, List.forall_mem_cons.mpr ⟨lw_p18, List.forall_mem_cons.mpr ⟨lw_p19, List.forall_mem_cons.mpr ⟨lw_p20, List.forall_mem_cons.mpr ⟨lw_p21, List.forall_mem_cons.mpr ⟨lw_p22, List.forall_mem_cons.mpr ⟨lw_p23, List.forall_mem_cons.mpr ⟨lw_p24, List.forall_mem_cons.mpr ⟨lw_p25, List.forall_mem_cons.mpr ⟨lw_p26, List.forall_mem_cons.mpr ⟨lw_p27, List.forall_mem_cons.mpr ⟨lw_p28, List.forall_mem_cons.mpr ⟨lw_p29, List.forall_mem_cons.mpr ⟨lw_p30, List.forall_mem_cons.mpr ⟨lw_p31, fun _ h => absurd h List.not_mem_nil⟩⟩⟩⟩⟩⟩⟩⟩⟩⟩⟩⟩⟩⟩⟩⟩
theorem lw_p32 : lw_okq (⟨"StretchedCarpetModel", "isBefore", "(I)Z"⟩, 27) := ⟨⟨by decide +kernel, by decide +kernel⟩, List.mem_of_getElem? (i := 715) (by decide +kernel), List.mem_of_getElem? (i := 963) (by decide +kernel), List.mem_of_getElem? (i := 964) (by decide +kernel)⟩
theorem lw_p33 : lw_okq (⟨"StretchedCarpetModel", "layOrder", "()V"⟩, 27) := ⟨⟨by decide +kernel, by decide +kernel⟩, List.mem_of_getElem? (i := 715) (by decide +kernel), List.mem_of_getElem? (i := 971) (by decide +kernel), List.mem_of_getElem? (i := 972) (by decide +kernel)⟩
theorem lw_p34 : lw_okq (⟨"StretchedCarpetModel", "kicks", "(I)I"⟩, 27) := ⟨⟨by decide +kernel, by decide +kernel⟩, List.mem_of_getElem? (i := 715) (by decide +kernel), List.mem_of_getElem? (i := 975) (by decide +kernel), List.mem_of_getElem? (i := 976) (by decide +kernel)⟩
theorem lw_p35 : lw_okq (⟨"StretchedCarpetModel", "begin", "()V"⟩, 27) := ⟨⟨by decide +kernel, by decide +kernel⟩, List.mem_of_getElem? (i := 715) (by decide +kernel), List.mem_of_getElem? (i := 979) (by decide +kernel), List.mem_of_getElem? (i := 980) (by decide +kernel)⟩
theorem lw_p36 : lw_okq (⟨"StretchedCarpetModel", "leastKick", "([III)I"⟩, 27) := ⟨⟨by decide +kernel, by decide +kernel⟩, List.mem_of_getElem? (i := 715) (by decide +kernel), List.mem_of_getElem? (i := 983) (by decide +kernel), List.mem_of_getElem? (i := 984) (by decide +kernel)⟩
theorem lw_p37 : lw_okq (⟨"StretchedCarpetModel", "wavesAt", "(I)I"⟩, 27) := ⟨⟨by decide +kernel, by decide +kernel⟩, List.mem_of_getElem? (i := 715) (by decide +kernel), List.mem_of_getElem? (i := 995) (by decide +kernel), List.mem_of_getElem? (i := 996) (by decide +kernel)⟩
theorem lw_p38 : lw_okq (⟨"StretchedCarpetModel", "isSo", "(II)Z"⟩, 27) := ⟨⟨by decide +kernel, by decide +kernel⟩, List.mem_of_getElem? (i := 715) (by decide +kernel), List.mem_of_getElem? (i := 1015) (by decide +kernel), List.mem_of_getElem? (i := 1016) (by decide +kernel)⟩
def lw_privs_3 : List (MethodName × Nat) := [(⟨"StretchedCarpetModel", "isBefore", "(I)Z"⟩, 27), (⟨"StretchedCarpetModel", "layOrder", "()V"⟩, 27), (⟨"StretchedCarpetModel", "kicks", "(I)I"⟩, 27), (⟨"StretchedCarpetModel", "begin", "()V"⟩, 27), (⟨"StretchedCarpetModel", "leastKick", "([III)I"⟩, 27), (⟨"StretchedCarpetModel", "wavesAt", "(I)I"⟩, 27), (⟨"StretchedCarpetModel", "isSo", "(II)Z"⟩, 27)]
theorem lw_r3 : ∀ q ∈ lw_privs_3, lw_okq q := List.forall_mem_cons.mpr ⟨lw_p32, List.forall_mem_cons.mpr ⟨lw_p33, List.forall_mem_cons.mpr ⟨lw_p34, List.forall_mem_cons.mpr ⟨lw_p35, List.forall_mem_cons.mpr ⟨lw_p36, List.forall_mem_cons.mpr ⟨lw_p37, List.forall_mem_cons.mpr ⟨lw_p38, fun _ h => absurd h List.not_mem_nil⟩⟩⟩⟩⟩⟩⟩
def lw_privs : List (MethodName × Nat) := lw_privs_1 ++ (lw_privs_2 ++ (lw_privs_3))
def lw_tbl : List Cond := k2_sels lw_privs ++ tables_1
theorem lw_privs_ok : ∀ q ∈ lw_privs, lw_okq q := by
  show ∀ q ∈ lw_privs_1 ++ (lw_privs_2 ++ (lw_privs_3)), lw_okq q
  exact List.forall_mem_append.mpr ⟨lw_r1, List.forall_mem_append.mpr ⟨lw_r2, lw_r3⟩⟩
end
section
def RX0 : String := "StretchedCarpet$Carpet"
def TX0 : u_T := fun k => match k with
  | 0 => ("StretchedCarpet$Carpet", "breadths", "[I", true)
  | 1 => ("StretchedCarpet$Carpet", "tightnesses", "[I", true)
  | 2 => ("StretchedCarpet$Carpet", "lengths", "I", false)
  | 3 => ("StretchedCarpet$Carpet", "covered", "I", false)
  | 4 => ("StretchedCarpet$Carpet", "rollLeft", "I", false)
  | 5 => ("StretchedCarpet$Carpet", "hooked", "I", false)
  | 6 => ("StretchedCarpet$Carpet", "torn", "I", false)
  | _ => ("StretchedCarpet$Carpet", "month", "I", false)
def tyX0 : Nat → FieldType := fun k => match k with
  | 0 => .array .int
  | 1 => .array .int
  | 2 => .int
  | 3 => .int
  | 4 => .int
  | 5 => .int
  | 6 => .int
  | _ => .int
theorem nmX0 : ∀ a, a < 8 → ∀ b, b < 8 → a ≠ b → (TX0 a).2.1 ≠ (TX0 b).2.1 := by decide +kernel
theorem tyX0_ok : ∀ k, k < 8 → parseFieldDescriptor (TX0 k).2.2.1 = some (tyX0 k) := by decide +kernel
abbrev cX0_init : ByteArray := prog_2_method_1_code
def yX0_init : MethodName := ⟨RX0, "<init>", "()V"⟩
abbrev cX0_clear : ByteArray := prog_2_method_2_code
def yX0_clear : MethodName := ⟨RX0, "clear", "(I)V"⟩
abbrev cX0_copyFrom : ByteArray := prog_2_method_3_code
def yX0_copyFrom : MethodName := ⟨RX0, "copyFrom", "(LStretchedCarpet$Carpet;)V"⟩
abbrev cX0_isCovered : ByteArray := prog_2_method_4_code
def yX0_isCovered : MethodName := ⟨RX0, "isCovered", "(LStretchedCarpet$Room;)Z"⟩
abbrev cX0_canCut : ByteArray := prog_2_method_5_code
def yX0_canCut : MethodName := ⟨RX0, "canCut", "(LStretchedCarpet$Room;I)Z"⟩
abbrev cX0_cutFor : ByteArray := prog_2_method_6_code
def yX0_cutFor : MethodName := ⟨RX0, "cutFor", "(LStretchedCarpet$Room;I)I"⟩
abbrev cX0_lengthOver : ByteArray := prog_2_method_7_code
def yX0_lengthOver : MethodName := ⟨RX0, "lengthOver", "(I)I"⟩
abbrev cX0_isSeamAt : ByteArray := prog_2_method_8_code
def yX0_isSeamAt : MethodName := ⟨RX0, "isSeamAt", "(I)Z"⟩
abbrev cX0_hasRestFor : ByteArray := prog_2_method_9_code
def yX0_hasRestFor : MethodName := ⟨RX0, "hasRestFor", "(LStretchedCarpet$Room;II)Z"⟩
abbrev cX0_areaOfRests : ByteArray := prog_2_method_10_code
def yX0_areaOfRests : MethodName := ⟨RX0, "areaOfRests", "(LStretchedCarpet$Room;)I"⟩
abbrev cX0_tightness : ByteArray := prog_2_method_11_code
def yX0_tightness : MethodName := ⟨RX0, "tightness", "(I)I"⟩
abbrev cX0_isHooked : ByteArray := prog_2_method_12_code
def yX0_isHooked : MethodName := ⟨RX0, "isHooked", "(I)Z"⟩
abbrev cX0_isTorn : ByteArray := prog_2_method_13_code
def yX0_isTorn : MethodName := ⟨RX0, "isTorn", "(I)Z"⟩
abbrev cX0_isFree : ByteArray := prog_2_method_14_code
def yX0_isFree : MethodName := ⟨RX0, "isFree", "(I)Z"⟩
abbrev cX0_isWaving : ByteArray := prog_2_method_15_code
def yX0_isWaving : MethodName := ⟨RX0, "isWaving", "(I)Z"⟩
abbrev cX0_tightnessInAll : ByteArray := prog_2_method_16_code
def yX0_tightnessInAll : MethodName := ⟨RX0, "tightnessInAll", "()I"⟩
abbrev cX0_tightnessBy : ByteArray := prog_2_method_17_code
def yX0_tightnessBy : MethodName := ⟨RX0, "tightnessBy", "(LStretchedCarpet$Room;II)I"⟩
abbrev cX0_leastKick : ByteArray := prog_2_method_18_code
def yX0_leastKick : MethodName := ⟨RX0, "leastKick", "(LStretchedCarpet$Room;II)I"⟩
abbrev cX0_hookOn : ByteArray := prog_2_method_19_code
def yX0_hookOn : MethodName := ⟨RX0, "hookOn", "(LStretchedCarpet$Room;II)I"⟩
abbrev cX0_unhook : ByteArray := prog_2_method_20_code
def yX0_unhook : MethodName := ⟨RX0, "unhook", "(I)I"⟩
abbrev cX0_passMonth : ByteArray := prog_2_method_21_code
def yX0_passMonth : MethodName := ⟨RX0, "passMonth", "(LStretchedCarpet$Room;)V"⟩
abbrev cX0_monthsToWave : ByteArray := prog_2_method_22_code
def yX0_monthsToWave : MethodName := ⟨RX0, "monthsToWave", "(LStretchedCarpet$Room;I)I"⟩
abbrev cX0_takeStep : ByteArray := prog_2_method_23_code
def yX0_takeStep : MethodName := ⟨RX0, "takeStep", "(LStretchedCarpet$Room;I)V"⟩
def RX1 : String := "StretchedCarpet$CutPlan"
def TX1 : u_T := fun k => match k with
  | 0 => ("StretchedCarpet$CutPlan", "cutFrom", "[I", true)
  | 1 => ("StretchedCarpet$CutPlan", "seamsFrom", "[I", true)
  | 2 => ("StretchedCarpet$CutPlan", "breadthFrom", "[I", true)
  | 3 => ("StretchedCarpet$CutPlan", "start", "I", false)
  | 4 => ("StretchedCarpet$CutPlan", "end", "I", false)
  | 5 => ("StretchedCarpet$CutPlan", "does", "Z", false)
  | 6 => ("StretchedCarpet$CutPlan", "leastCut", "I", false)
  | _ => ("StretchedCarpet$CutPlan", "leastSeams", "I", false)
def tyX1 : Nat → FieldType := fun k => match k with
  | 0 => .array .int
  | 1 => .array .int
  | 2 => .array .int
  | 3 => .int
  | 4 => .int
  | 5 => .boolean
  | 6 => .int
  | _ => .int
theorem nmX1 : ∀ a, a < 8 → ∀ b, b < 8 → a ≠ b → (TX1 a).2.1 ≠ (TX1 b).2.1 := by decide +kernel
theorem tyX1_ok : ∀ k, k < 8 → parseFieldDescriptor (TX1 k).2.2.1 = some (tyX1 k) := by decide +kernel
abbrev cX1_init : ByteArray := prog_3_method_1_code
def yX1_init : MethodName := ⟨RX1, "<init>", "()V"⟩
abbrev cX1_make : ByteArray := prog_3_method_2_code
def yX1_make : MethodName := ⟨RX1, "make", "(LStretchedCarpet$Room;LStretchedCarpet$Carpet;)V"⟩
abbrev cX1_choose : ByteArray := prog_3_method_3_code
def yX1_choose : MethodName := ⟨RX1, "choose", "(LStretchedCarpet$Room;I)V"⟩
abbrev cX1_isLess : ByteArray := prog_3_method_4_code
def yX1_isLess : MethodName := ⟨RX1, "isLess", "(III)Z"⟩
abbrev cX1_breadthOf : ByteArray := prog_3_method_5_code
def yX1_breadthOf : MethodName := ⟨RX1, "breadthOf", "(I)I"⟩
def RX2 : String := "StretchedCarpet$HookOrder"
def TX2 : u_T := fun k => match k with
  | 0 => ("StretchedCarpet$HookOrder", "free", "I", false)
  | 1 => ("StretchedCarpet$HookOrder", "bestCode", "I", false)
  | _ => ("StretchedCarpet$HookOrder", "leastKicks", "I", false)
def tyX2 : Nat → FieldType := fun k => match k with
  | 0 => .int
  | 1 => .int
  | _ => .int
theorem nmX2 : ∀ a, a < 3 → ∀ b, b < 3 → a ≠ b → (TX2 a).2.1 ≠ (TX2 b).2.1 := by decide +kernel
theorem tyX2_ok : ∀ k, k < 3 → parseFieldDescriptor (TX2 k).2.2.1 = some (tyX2 k) := by decide +kernel
abbrev cX2_init : ByteArray := prog_4_method_1_code
def yX2_init : MethodName := ⟨RX2, "<init>", "()V"⟩
abbrev cX2_make : ByteArray := prog_4_method_2_code
def yX2_make : MethodName := ⟨RX2, "make", "(LStretchedCarpet$Room;LStretchedCarpet$Carpet;LStretchedCarpet$Carpet;)V"⟩
abbrev cX2_wallIn : ByteArray := prog_4_method_3_code
def yX2_wallIn : MethodName := ⟨RX2, "wallIn", "(II)I"⟩
abbrev cX2_isOrder : ByteArray := prog_4_method_4_code
def yX2_isOrder : MethodName := ⟨RX2, "isOrder", "(LStretchedCarpet$Carpet;I)Z"⟩
abbrev cX2_kicksOf : ByteArray := prog_4_method_5_code
def yX2_kicksOf : MethodName := ⟨RX2, "kicksOf", "(LStretchedCarpet$Room;LStretchedCarpet$Carpet;LStretchedCarpet$Carpet;I)I"⟩
abbrev cX2_wallAt : ByteArray := prog_4_method_6_code
def yX2_wallAt : MethodName := ⟨RX2, "wallAt", "(I)I"⟩
def RX3 : String := "StretchedCarpet$Room"
def TX3 : u_T := fun k => match k with
  | 0 => ("StretchedCarpet$Room", "stripLengths", "[I", true)
  | 1 => ("StretchedCarpet$Room", "lights", "[I", true)
  | 2 => ("StretchedCarpet$Room", "treads", "[I", true)
  | 3 => ("StretchedCarpet$Room", "damps", "[I", true)
  | 4 => ("StretchedCarpet$Room", "numbers", "[I", true)
  | 5 => ("StretchedCarpet$Room", "strips", "I", false)
  | 6 => ("StretchedCarpet$Room", "dampCount", "I", false)
  | 7 => ("StretchedCarpet$Room", "rollBroad", "I", false)
  | 8 => ("StretchedCarpet$Room", "rollLong", "I", false)
  | 9 => ("StretchedCarpet$Room", "over", "I", false)
  | 10 => ("StretchedCarpet$Room", "hookHold", "I", false)
  | 11 => ("StretchedCarpet$Room", "kind", "I", false)
  | _ => ("StretchedCarpet$Room", "gives", "I", false)
def tyX3 : Nat → FieldType := fun k => match k with
  | 0 => .array .int
  | 1 => .array .int
  | 2 => .array .int
  | 3 => .array .int
  | 4 => .array .int
  | 5 => .int
  | 6 => .int
  | 7 => .int
  | 8 => .int
  | 9 => .int
  | 10 => .int
  | 11 => .int
  | _ => .int
theorem nmX3 : ∀ a, a < 13 → ∀ b, b < 13 → a ≠ b → (TX3 a).2.1 ≠ (TX3 b).2.1 := by decide +kernel
theorem tyX3_ok : ∀ k, k < 13 → parseFieldDescriptor (TX3 k).2.2.1 = some (tyX3 k) := by decide +kernel
abbrev cX3_init : ByteArray := prog_5_method_1_code
def yX3_init : MethodName := ⟨RX3, "<init>", "()V"⟩
abbrev cX3_clear : ByteArray := prog_5_method_2_code
def yX3_clear : MethodName := ⟨RX3, "clear", "()V"⟩
abbrev cX3_readText : ByteArray := prog_5_method_3_code
def yX3_readText : MethodName := ⟨RX3, "readText", "([CI)I"⟩
abbrev cX3_readNumbers : ByteArray := prog_5_method_4_code
def yX3_readNumbers : MethodName := ⟨RX3, "readNumbers", "([CII)I"⟩
abbrev cX3_numbersBehind : ByteArray := prog_5_method_5_code
def yX3_numbersBehind : MethodName := ⟨RX3, "numbersBehind", "(I)I"⟩
abbrev cX3_figuresAt : ByteArray := prog_5_method_6_code
def yX3_figuresAt : MethodName := ⟨RX3, "figuresAt", "([CII)I"⟩
abbrev cX3_numberAt : ByteArray := prog_5_method_7_code
def yX3_numberAt : MethodName := ⟨RX3, "numberAt", "([CIII)I"⟩
abbrev cX3_isFigure : ByteArray := prog_5_method_8_code
def yX3_isFigure : MethodName := ⟨RX3, "isFigure", "(I)Z"⟩
abbrev cX3_letterAt : ByteArray := prog_5_method_9_code
def yX3_letterAt : MethodName := ⟨RX3, "letterAt", "([CII)I"⟩
abbrev cX3_takeItem : ByteArray := prog_5_method_10_code
def yX3_takeItem : MethodName := ⟨RX3, "takeItem", "(I)Z"⟩
abbrev cX3_takeStrip : ByteArray := prog_5_method_11_code
def yX3_takeStrip : MethodName := ⟨RX3, "takeStrip", "(III)Z"⟩
abbrev cX3_takeDamp : ByteArray := prog_5_method_12_code
def yX3_takeDamp : MethodName := ⟨RX3, "takeDamp", "(I)Z"⟩
abbrev cX3_lengthOfStrip : ByteArray := prog_5_method_13_code
def yX3_lengthOfStrip : MethodName := ⟨RX3, "lengthOfStrip", "(I)I"⟩
abbrev cX3_lightAt : ByteArray := prog_5_method_14_code
def yX3_lightAt : MethodName := ⟨RX3, "lightAt", "(I)I"⟩
abbrev cX3_treadAt : ByteArray := prog_5_method_15_code
def yX3_treadAt : MethodName := ⟨RX3, "treadAt", "(I)I"⟩
abbrev cX3_dampOf : ByteArray := prog_5_method_16_code
def yX3_dampOf : MethodName := ⟨RX3, "dampOf", "(I)I"⟩
abbrev cX3_slackeningIn : ByteArray := prog_5_method_17_code
def yX3_slackeningIn : MethodName := ⟨RX3, "slackeningIn", "(I)I"⟩
abbrev cX3_lengthFor : ByteArray := prog_5_method_18_code
def yX3_lengthFor : MethodName := ⟨RX3, "lengthFor", "(II)I"⟩
def RX4 : String := "StretchedCarpet$Shelf"
def TX4 : u_T := fun k => match k with
  | 0 => ("StretchedCarpet$Shelf", "rows", "[LStretchedCarpet$Carpet;", true)
  | 1 => ("StretchedCarpet$Shelf", "next", "I", false)
  | _ => ("StretchedCarpet$Shelf", "size", "I", false)
def tyX4 : Nat → FieldType := fun k => match k with
  | 0 => .array (.object "StretchedCarpet$Carpet")
  | 1 => .int
  | _ => .int
theorem nmX4 : ∀ a, a < 3 → ∀ b, b < 3 → a ≠ b → (TX4 a).2.1 ≠ (TX4 b).2.1 := by decide +kernel
theorem tyX4_ok : ∀ k, k < 3 → parseFieldDescriptor (TX4 k).2.2.1 = some (tyX4 k) := by decide +kernel
abbrev cX4_init : ByteArray := prog_6_method_1_code
def yX4_init : MethodName := ⟨RX4, "<init>", "(I)V"⟩
abbrev cX4_clear : ByteArray := prog_6_method_2_code
def yX4_clear : MethodName := ⟨RX4, "clear", "()V"⟩
abbrev cX4_isFull : ByteArray := prog_6_method_3_code
def yX4_isFull : MethodName := ⟨RX4, "isFull", "()Z"⟩
abbrev cX4_rowAt : ByteArray := prog_6_method_4_code
def yX4_rowAt : MethodName := ⟨RX4, "rowAt", "(I)LStretchedCarpet$Carpet;"⟩
abbrev cX4_push : ByteArray := prog_6_method_5_code
def yX4_push : MethodName := ⟨RX4, "push", "(LStretchedCarpet$Carpet;)V"⟩
abbrev cX4_pop : ByteArray := prog_6_method_6_code
def yX4_pop : MethodName := ⟨RX4, "pop", "(LStretchedCarpet$Carpet;)Z"⟩
def RX5 : String := "StretchedCarpet$Sightings"
def TX5 : u_T := fun k => match k with
  | 0 => ("StretchedCarpet$Sightings", "kicks", "[I", true)
  | 1 => ("StretchedCarpet$Sightings", "tightnesses", "[I", true)
  | _ => ("StretchedCarpet$Sightings", "size", "I", false)
def tyX5 : Nat → FieldType := fun k => match k with
  | 0 => .array .int
  | 1 => .array .int
  | _ => .int
theorem nmX5 : ∀ a, a < 3 → ∀ b, b < 3 → a ≠ b → (TX5 a).2.1 ≠ (TX5 b).2.1 := by decide +kernel
theorem tyX5_ok : ∀ k, k < 3 → parseFieldDescriptor (TX5 k).2.2.1 = some (tyX5 k) := by decide +kernel
abbrev cX5_init : ByteArray := prog_7_method_1_code
def yX5_init : MethodName := ⟨RX5, "<init>", "()V"⟩
abbrev cX5_clear : ByteArray := prog_7_method_2_code
def yX5_clear : MethodName := ⟨RX5, "clear", "()V"⟩
abbrev cX5_add : ByteArray := prog_7_method_3_code
def yX5_add : MethodName := ⟨RX5, "add", "(II)Z"⟩
abbrev cX5_kindsFor : ByteArray := prog_7_method_4_code
def yX5_kindsFor : MethodName := ⟨RX5, "kindsFor", "(I)I"⟩
abbrev cX5_givesFor : ByteArray := prog_7_method_5_code
def yX5_givesFor : MethodName := ⟨RX5, "givesFor", "(I)I"⟩
abbrev cX5_explainedBy : ByteArray := prog_7_method_6_code
def yX5_explainedBy : MethodName := ⟨RX5, "explainedBy", "(II)Z"⟩
def RX6 : String := "StretchedCarpet"
def TX6 : u_T := fun k => match k with
  | 0 => ("StretchedCarpet", "text", "[C", true)
  | 1 => ("StretchedCarpet", "letters", "I", false)
  | 2 => ("StretchedCarpet", "room", "LStretchedCarpet$Room;", false)
  | 3 => ("StretchedCarpet", "draft", "LStretchedCarpet$Room;", false)
  | 4 => ("StretchedCarpet", "carpet", "LStretchedCarpet$Carpet;", true)
  | 5 => ("StretchedCarpet", "trial", "LStretchedCarpet$Carpet;", true)
  | 6 => ("StretchedCarpet", "undoable", "LStretchedCarpet$Shelf;", true)
  | 7 => ("StretchedCarpet", "kept", "LStretchedCarpet$Shelf;", true)
  | 8 => ("StretchedCarpet", "sightings", "LStretchedCarpet$Sightings;", true)
  | 9 => ("StretchedCarpet", "cutPlan", "LStretchedCarpet$CutPlan;", true)
  | _ => ("StretchedCarpet", "hookOrder", "LStretchedCarpet$HookOrder;", true)
def tyX6 : Nat → FieldType := fun k => match k with
  | 0 => .array .char
  | 1 => .int
  | 2 => .object "StretchedCarpet$Room"
  | 3 => .object "StretchedCarpet$Room"
  | 4 => .object "StretchedCarpet$Carpet"
  | 5 => .object "StretchedCarpet$Carpet"
  | 6 => .object "StretchedCarpet$Shelf"
  | 7 => .object "StretchedCarpet$Shelf"
  | 8 => .object "StretchedCarpet$Sightings"
  | 9 => .object "StretchedCarpet$CutPlan"
  | _ => .object "StretchedCarpet$HookOrder"
theorem nmX6 : ∀ a, a < 11 → ∀ b, b < 11 → a ≠ b → (TX6 a).2.1 ≠ (TX6 b).2.1 := by decide +kernel
theorem tyX6_ok : ∀ k, k < 11 → parseFieldDescriptor (TX6 k).2.2.1 = some (tyX6 k) := by decide +kernel
abbrev cX6_init : ByteArray := prog_1_method_1_code
def yX6_init : MethodName := ⟨RX6, "<init>", "()V"⟩
abbrev cX6_write : ByteArray := prog_1_method_2_code
def yX6_write : MethodName := ⟨RX6, "write", "(I)I"⟩
abbrev cX6_wipe : ByteArray := prog_1_method_3_code
def yX6_wipe : MethodName := ⟨RX6, "wipe", "()I"⟩
abbrev cX6_fault : ByteArray := prog_1_method_4_code
def yX6_fault : MethodName := ⟨RX6, "fault", "()I"⟩
abbrev cX6_lay : ByteArray := prog_1_method_5_code
def yX6_lay : MethodName := ⟨RX6, "lay", "()I"⟩
abbrev cX6_strip : ByteArray := prog_1_method_6_code
def yX6_strip : MethodName := ⟨RX6, "strip", "(II)I"⟩
abbrev cX6_wall : ByteArray := prog_1_method_7_code
def yX6_wall : MethodName := ⟨RX6, "wall", "(II)I"⟩
abbrev cX6_damp : ByteArray := prog_1_method_8_code
def yX6_damp : MethodName := ⟨RX6, "damp", "(I)I"⟩
abbrev cX6_cut : ByteArray := prog_1_method_9_code
def yX6_cut : MethodName := ⟨RX6, "cut", "(I)I"⟩
abbrev cX6_hook : ByteArray := prog_1_method_10_code
def yX6_hook : MethodName := ⟨RX6, "hook", "(II)I"⟩
abbrev cX6_letGo : ByteArray := prog_1_method_11_code
def yX6_letGo : MethodName := ⟨RX6, "letGo", "(I)I"⟩
abbrev cX6_pass : ByteArray := prog_1_method_12_code
def yX6_pass : MethodName := ⟨RX6, "pass", "(I)I"⟩
abbrev cX6_undo : ByteArray := prog_1_method_13_code
def yX6_undo : MethodName := ⟨RX6, "undo", "()I"⟩
abbrev cX6_plan : ByteArray := prog_1_method_14_code
def yX6_plan : MethodName := ⟨RX6, "plan", "(I)I"⟩
abbrev cX6_order : ByteArray := prog_1_method_15_code
def yX6_order : MethodName := ⟨RX6, "order", "(I)I"⟩
abbrev cX6_kickFor : ByteArray := prog_1_method_16_code
def yX6_kickFor : MethodName := ⟨RX6, "kickFor", "(II)I"⟩
abbrev cX6_waves : ByteArray := prog_1_method_17_code
def yX6_waves : MethodName := ⟨RX6, "waves", "()I"⟩
abbrev cX6_longest : ByteArray := prog_1_method_18_code
def yX6_longest : MethodName := ⟨RX6, "longest", "()I"⟩
abbrev cX6_seen : ByteArray := prog_1_method_19_code
def yX6_seen : MethodName := ⟨RX6, "seen", "(II)I"⟩
abbrev cX6_forget : ByteArray := prog_1_method_20_code
def yX6_forget : MethodName := ⟨RX6, "forget", "()I"⟩
abbrev cX6_may : ByteArray := prog_1_method_21_code
def yX6_may : MethodName := ⟨RX6, "may", "(I)I"⟩
abbrev cX6_hall : ByteArray := prog_1_method_22_code
def yX6_hall : MethodName := ⟨RX6, "hall", "(II)I"⟩
abbrev cX6_left : ByteArray := prog_1_method_23_code
def yX6_left : MethodName := ⟨RX6, "left", "(I)I"⟩
abbrev cX6_likely : ByteArray := prog_1_method_24_code
def yX6_likely : MethodName := ⟨RX6, "likely", "(IIII)I"⟩
abbrev cX6_year : ByteArray := prog_1_method_25_code
def yX6_year : MethodName := ⟨RX6, "year", "(III)I"⟩
abbrev cX6_keep : ByteArray := prog_1_method_26_code
def yX6_keep : MethodName := ⟨RX6, "keep", "()I"⟩
abbrev cX6_back : ByteArray := prog_1_method_27_code
def yX6_back : MethodName := ⟨RX6, "back", "()I"⟩
abbrev cX6_count : ByteArray := prog_1_method_28_code
def yX6_count : MethodName := ⟨RX6, "count", "(I)I"⟩
abbrev cX6_within : ByteArray := prog_1_method_29_code
def yX6_within : MethodName := ⟨RX6, "within", "(III)Z"⟩
abbrev cX6_isWall : ByteArray := prog_1_method_30_code
def yX6_isWall : MethodName := ⟨RX6, "isWall", "(I)Z"⟩
abbrev cX6_at : ByteArray := prog_1_method_31_code
def yX6_at : MethodName := ⟨RX6, "at", "([II)I"⟩
abbrev cX6_put : ByteArray := prog_1_method_32_code
def yX6_put : MethodName := ⟨RX6, "put", "([III)V"⟩
abbrev cX6_copy : ByteArray := prog_1_method_33_code
def yX6_copy : MethodName := ⟨RX6, "copy", "([I[I)V"⟩
abbrev cX6_power : ByteArray := prog_1_method_34_code
def yX6_power : MethodName := ⟨RX6, "power", "(II)I"⟩
abbrev cX6_commonDivisor : ByteArray := prog_1_method_35_code
def yX6_commonDivisor : MethodName := ⟨RX6, "commonDivisor", "(II)I"⟩
abbrev cX6_waysToWave : ByteArray := prog_1_method_36_code
def yX6_waysToWave : MethodName := ⟨RX6, "waysToWave", "(III)I"⟩
abbrev cX6_draw : ByteArray := prog_1_method_37_code
def yX6_draw : MethodName := ⟨RX6, "draw", "(II)I"⟩
abbrev cX6_slackOf : ByteArray := prog_1_method_38_code
def yX6_slackOf : MethodName := ⟨RX6, "slackOf", "(III)I"⟩
def RX7 : String := "StretchedCarpetModel"
def TX7 : u_T := fun k => match k with
  | 0 => ("StretchedCarpetModel", "letters", "I", false)
  | 1 => ("StretchedCarpetModel", "text", "[I", true)
  | 2 => ("StretchedCarpetModel", "position", "I", false)
  | 3 => ("StretchedCarpetModel", "number", "I", false)
  | 4 => ("StretchedCarpetModel", "readMany", "I", false)
  | 5 => ("StretchedCarpetModel", "readDamps", "I", false)
  | 6 => ("StretchedCarpetModel", "readStrip", "[I", true)
  | 7 => ("StretchedCarpetModel", "readDamp", "[I", true)
  | 8 => ("StretchedCarpetModel", "readLaw", "[I", true)
  | 9 => ("StretchedCarpetModel", "many", "I", false)
  | 10 => ("StretchedCarpetModel", "damps", "I", false)
  | 11 => ("StretchedCarpetModel", "strip", "[I", true)
  | 12 => ("StretchedCarpetModel", "dampOf", "[I", true)
  | 13 => ("StretchedCarpetModel", "law", "[I", true)
  | 14 => ("StretchedCarpetModel", "now", "[I", true)
  | 15 => ("StretchedCarpetModel", "tried", "[I", true)
  | 16 => ("StretchedCarpetModel", "backOf", "[I", true)
  | 17 => ("StretchedCarpetModel", "backs", "I", false)
  | 18 => ("StretchedCarpetModel", "kept", "[I", true)
  | 19 => ("StretchedCarpetModel", "keptMany", "I", false)
  | 20 => ("StretchedCarpetModel", "sights", "I", false)
  | 21 => ("StretchedCarpetModel", "sight", "[I", true)
  | 22 => ("StretchedCarpetModel", "row", "[I", true)
  | 23 => ("StretchedCarpetModel", "bestRow", "[I", true)
  | 24 => ("StretchedCarpetModel", "bestMany", "I", false)
  | 25 => ("StretchedCarpetModel", "bestCut", "I", false)
  | _ => ("StretchedCarpetModel", "bestSeams", "I", false)
def tyX7 : Nat → FieldType := fun k => match k with
  | 0 => .int
  | 1 => .array .int
  | 2 => .int
  | 3 => .int
  | 4 => .int
  | 5 => .int
  | 6 => .array .int
  | 7 => .array .int
  | 8 => .array .int
  | 9 => .int
  | 10 => .int
  | 11 => .array .int
  | 12 => .array .int
  | 13 => .array .int
  | 14 => .array .int
  | 15 => .array .int
  | 16 => .array .int
  | 17 => .int
  | 18 => .array .int
  | 19 => .int
  | 20 => .int
  | 21 => .array .int
  | 22 => .array .int
  | 23 => .array .int
  | 24 => .int
  | 25 => .int
  | _ => .int
theorem nmX7 : ∀ a, a < 27 → ∀ b, b < 27 → a ≠ b → (TX7 a).2.1 ≠ (TX7 b).2.1 := by decide +kernel
theorem tyX7_ok : ∀ k, k < 27 → parseFieldDescriptor (TX7 k).2.2.1 = some (tyX7 k) := by decide +kernel
abbrev cX7_init : ByteArray := prog_9_method_1_code
def yX7_init : MethodName := ⟨RX7, "<init>", "()V"⟩
abbrev cX7_addStrip : ByteArray := prog_9_method_2_code
def yX7_addStrip : MethodName := ⟨RX7, "addStrip", "(IIII)V"⟩
abbrev cX7_in : ByteArray := prog_9_method_3_code
def yX7_in : MethodName := ⟨RX7, "in", "(III)Z"⟩
abbrev cX7_has : ByteArray := prog_9_method_4_code
def yX7_has : MethodName := ⟨RX7, "has", "(II)Z"⟩
abbrev cX7_bits : ByteArray := prog_9_method_5_code
def yX7_bits : MethodName := ⟨RX7, "bits", "(I)I"⟩
abbrev cX7_bring : ByteArray := prog_9_method_6_code
def yX7_bring : MethodName := ⟨RX7, "bring", "([II[III)V"⟩
abbrev cX7_write : ByteArray := prog_9_method_7_code
def yX7_write : MethodName := ⟨RX7, "write", "(I)I"⟩
abbrev cX7_wipe : ByteArray := prog_9_method_8_code
def yX7_wipe : MethodName := ⟨RX7, "wipe", "()I"⟩
abbrev cX7_letterAt : ByteArray := prog_9_method_9_code
def yX7_letterAt : MethodName := ⟨RX7, "letterAt", "(I)I"⟩
abbrev cX7_isNumber : ByteArray := prog_9_method_10_code
def yX7_isNumber : MethodName := ⟨RX7, "isNumber", "(III)Z"⟩
abbrev cX7_isStripItem : ByteArray := prog_9_method_11_code
def yX7_isStripItem : MethodName := ⟨RX7, "isStripItem", "()Z"⟩
abbrev cX7_isDampItem : ByteArray := prog_9_method_12_code
def yX7_isDampItem : MethodName := ⟨RX7, "isDampItem", "()Z"⟩
abbrev cX7_isPair : ByteArray := prog_9_method_13_code
def yX7_isPair : MethodName := ⟨RX7, "isPair", "(IIIII)Z"⟩
abbrev cX7_isOne : ByteArray := prog_9_method_14_code
def yX7_isOne : MethodName := ⟨RX7, "isOne", "(III)Z"⟩
abbrev cX7_isItem : ByteArray := prog_9_method_15_code
def yX7_isItem : MethodName := ⟨RX7, "isItem", "()Z"⟩
abbrev cX7_fault : ByteArray := prog_9_method_16_code
def yX7_fault : MethodName := ⟨RX7, "fault", "()I"⟩
abbrev cX7_lay : ByteArray := prog_9_method_17_code
def yX7_lay : MethodName := ⟨RX7, "lay", "()I"⟩
abbrev cX7_coveredIn : ByteArray := prog_9_method_18_code
def yX7_coveredIn : MethodName := ⟨RX7, "coveredIn", "([I)I"⟩
abbrev cX7_rollIn : ByteArray := prog_9_method_19_code
def yX7_rollIn : MethodName := ⟨RX7, "rollIn", "([I)I"⟩
abbrev cX7_lengthOf : ByteArray := prog_9_method_20_code
def yX7_lengthOf : MethodName := ⟨RX7, "lengthOf", "(I)I"⟩
abbrev cX7_strip : ByteArray := prog_9_method_21_code
def yX7_strip : MethodName := ⟨RX7, "strip", "(II)I"⟩
abbrev cX7_isHooked : ByteArray := prog_9_method_22_code
def yX7_isHooked : MethodName := ⟨RX7, "isHooked", "([II)Z"⟩
abbrev cX7_wall : ByteArray := prog_9_method_23_code
def yX7_wall : MethodName := ⟨RX7, "wall", "(II)I"⟩
abbrev cX7_dampBy : ByteArray := prog_9_method_24_code
def yX7_dampBy : MethodName := ⟨RX7, "dampBy", "(I)I"⟩
abbrev cX7_damp : ByteArray := prog_9_method_25_code
def yX7_damp : MethodName := ⟨RX7, "damp", "(I)I"⟩
abbrev cX7_note : ByteArray := prog_9_method_26_code
def yX7_note : MethodName := ⟨RX7, "note", "()V"⟩
abbrev cX7_longFor : ByteArray := prog_9_method_27_code
def yX7_longFor : MethodName := ⟨RX7, "longFor", "(II)I"⟩
abbrev cX7_cut : ByteArray := prog_9_method_28_code
def yX7_cut : MethodName := ⟨RX7, "cut", "(I)I"⟩
abbrev cX7_givesBy : ByteArray := prog_9_method_29_code
def yX7_givesBy : MethodName := ⟨RX7, "givesBy", "(III)I"⟩
abbrev cX7_tightBy : ByteArray := prog_9_method_30_code
def yX7_tightBy : MethodName := ⟨RX7, "tightBy", "([III)I"⟩
abbrev cX7_isFree : ByteArray := prog_9_method_31_code
def yX7_isFree : MethodName := ⟨RX7, "isFree", "([II)Z"⟩
abbrev cX7_kick : ByteArray := prog_9_method_32_code
def yX7_kick : MethodName := ⟨RX7, "kick", "([III)V"⟩
abbrev cX7_isCovered : ByteArray := prog_9_method_33_code
def yX7_isCovered : MethodName := ⟨RX7, "isCovered", "()Z"⟩
abbrev cX7_hook : ByteArray := prog_9_method_34_code
def yX7_hook : MethodName := ⟨RX7, "hook", "(II)I"⟩
abbrev cX7_loosen : ByteArray := prog_9_method_35_code
def yX7_loosen : MethodName := ⟨RX7, "loosen", "([II)V"⟩
abbrev cX7_letGo : ByteArray := prog_9_method_36_code
def yX7_letGo : MethodName := ⟨RX7, "letGo", "(I)I"⟩
abbrev cX7_passMonth : ByteArray := prog_9_method_37_code
def yX7_passMonth : MethodName := ⟨RX7, "passMonth", "([I)V"⟩
abbrev cX7_pass : ByteArray := prog_9_method_38_code
def yX7_pass : MethodName := ⟨RX7, "pass", "(I)I"⟩
abbrev cX7_undo : ByteArray := prog_9_method_39_code
def yX7_undo : MethodName := ⟨RX7, "undo", "()I"⟩
abbrev cX7_seamAt : ByteArray := prog_9_method_40_code
def yX7_seamAt : MethodName := ⟨RX7, "seamAt", "(I)I"⟩
abbrev cX7_covers : ByteArray := prog_9_method_41_code
def yX7_covers : MethodName := ⟨RX7, "covers", "(II)Z"⟩
abbrev cX7_isBefore : ByteArray := prog_9_method_42_code
def yX7_isBefore : MethodName := ⟨RX7, "isBefore", "(I)Z"⟩
abbrev cX7_layPlan : ByteArray := prog_9_method_43_code
def yX7_layPlan : MethodName := ⟨RX7, "layPlan", "()V"⟩
abbrev cX7_plan : ByteArray := prog_9_method_44_code
def yX7_plan : MethodName := ⟨RX7, "plan", "(I)I"⟩
abbrev cX7_begin : ByteArray := prog_9_method_45_code
def yX7_begin : MethodName := ⟨RX7, "begin", "()V"⟩
abbrev cX7_leastKick : ByteArray := prog_9_method_46_code
def yX7_leastKick : MethodName := ⟨RX7, "leastKick", "([III)I"⟩
abbrev cX7_layOrder : ByteArray := prog_9_method_47_code
def yX7_layOrder : MethodName := ⟨RX7, "layOrder", "()V"⟩
abbrev cX7_kicks : ByteArray := prog_9_method_48_code
def yX7_kicks : MethodName := ⟨RX7, "kicks", "(I)I"⟩
abbrev cX7_order : ByteArray := prog_9_method_49_code
def yX7_order : MethodName := ⟨RX7, "order", "(I)I"⟩
abbrev cX7_kickFor : ByteArray := prog_9_method_50_code
def yX7_kickFor : MethodName := ⟨RX7, "kickFor", "(II)I"⟩
abbrev cX7_wavesAt : ByteArray := prog_9_method_51_code
def yX7_wavesAt : MethodName := ⟨RX7, "wavesAt", "(I)I"⟩
abbrev cX7_waves : ByteArray := prog_9_method_52_code
def yX7_waves : MethodName := ⟨RX7, "waves", "()I"⟩
abbrev cX7_longest : ByteArray := prog_9_method_53_code
def yX7_longest : MethodName := ⟨RX7, "longest", "()I"⟩
abbrev cX7_seen : ByteArray := prog_9_method_54_code
def yX7_seen : MethodName := ⟨RX7, "seen", "(II)I"⟩
abbrev cX7_forget : ByteArray := prog_9_method_55_code
def yX7_forget : MethodName := ⟨RX7, "forget", "()I"⟩
abbrev cX7_isSo : ByteArray := prog_9_method_56_code
def yX7_isSo : MethodName := ⟨RX7, "isSo", "(II)Z"⟩
abbrev cX7_may : ByteArray := prog_9_method_57_code
def yX7_may : MethodName := ⟨RX7, "may", "(I)I"⟩
abbrev cX7_hall : ByteArray := prog_9_method_58_code
def yX7_hall : MethodName := ⟨RX7, "hall", "(II)I"⟩
abbrev cX7_left : ByteArray := prog_9_method_59_code
def yX7_left : MethodName := ⟨RX7, "left", "(I)I"⟩
abbrev cX7_likely : ByteArray := prog_9_method_60_code
def yX7_likely : MethodName := ⟨RX7, "likely", "(IIII)I"⟩
abbrev cX7_year : ByteArray := prog_9_method_61_code
def yX7_year : MethodName := ⟨RX7, "year", "(III)I"⟩
abbrev cX7_keep : ByteArray := prog_9_method_62_code
def yX7_keep : MethodName := ⟨RX7, "keep", "()I"⟩
abbrev cX7_back : ByteArray := prog_9_method_63_code
def yX7_back : MethodName := ⟨RX7, "back", "()I"⟩
abbrev cX7_count : ByteArray := prog_9_method_64_code
def yX7_count : MethodName := ⟨RX7, "count", "(I)I"⟩
def RJ6 : String := "java/lang/Integer"
abbrev cJ6_bitCount_0f7a4 : ByteArray := prog_10_method_49_code
def yJ6_bitCount_0f7a4 : MethodName := ⟨RJ6, "bitCount", "(I)I"⟩
def RJ9 : String := "java/lang/Math"
abbrev cJ9_max_7cf53 : ByteArray := prog_11_method_65_code
def yJ9_max_7cf53 : MethodName := ⟨RJ9, "max", "(II)I"⟩
abbrev cJ9_min_7cf53 : ByteArray := prog_11_method_69_code
def yJ9_min_7cf53 : MethodName := ⟨RJ9, "min", "(II)I"⟩
def RJ0 : String := "java/lang/String"
abbrev cJ0_length_8abf5 : ByteArray := prog_12_method_54_code
def yJ0_length_8abf5 : MethodName := ⟨RJ0, "length", "()I"⟩
abbrev cJ0_toCharArray_70df3 : ByteArray := prog_12_method_129_code
def yJ0_toCharArray_70df3 : MethodName := ⟨RJ0, "toCharArray", "()[C"⟩
abbrev cJ0_coder_7d493 : ByteArray := prog_12_method_152_code
def yJ0_coder_7d493 : MethodName := ⟨RJ0, "coder", "()B"⟩
abbrev cJ0_isLatin1_aae02 : ByteArray := prog_12_method_154_code
def yJ0_isLatin1_aae02 : MethodName := ⟨RJ0, "isLatin1", "()Z"⟩
abbrev cJ0_checkBoundsOffCount_cabcc : ByteArray := prog_12_method_157_code
def yJ0_checkBoundsOffCount_cabcc : MethodName := ⟨RJ0, "checkBoundsOffCount", "(III)I"⟩
def RJ1 : String := "java/lang/StringLatin1"
abbrev cJ1_toChars_9d188 : ByteArray := prog_13_method_9_code
def yJ1_toChars_9d188 : MethodName := ⟨RJ1, "toChars", "([B)[C"⟩
abbrev cJ1_inflate_03870 : ByteArray := prog_13_method_49_code
def yJ1_inflate_03870 : MethodName := ⟨RJ1, "inflate", "([BI[CII)V"⟩
def RJ2 : String := "java/lang/StringUTF16"
abbrev cJ2_getChar_3b067 : ByteArray := prog_14_method_5_code
def yJ2_getChar_3b067 : MethodName := ⟨RJ2, "getChar", "([BI)C"⟩
abbrev cJ2_length_9d52b : ByteArray := prog_14_method_6_code
def yJ2_length_9d52b : MethodName := ⟨RJ2, "length", "([B)I"⟩
abbrev cJ2_toChars_9d188 : ByteArray := prog_14_method_13_code
def yJ2_toChars_9d188 : MethodName := ⟨RJ2, "toChars", "([B)[C"⟩
abbrev cJ2_getChars_a1a8b : ByteArray := prog_14_method_26_code
def yJ2_getChars_a1a8b : MethodName := ⟨RJ2, "getChars", "([BII[CI)V"⟩
abbrev cJ2_checkBoundsOffCount_d044e : ByteArray := prog_14_method_94_code
def yJ2_checkBoundsOffCount_d044e : MethodName := ⟨RJ2, "checkBoundsOffCount", "(II[B)V"⟩
def RJ3 : String := "jdk/internal/util/Preconditions"
abbrev cJ3_checkFromIndexSize_8c36e : ByteArray := prog_15_method_13_code
def yJ3_checkFromIndexSize_8c36e : MethodName := ⟨RJ3, "checkFromIndexSize", "(IIILjava/util/function/BiFunction;)I"⟩
def RL : String := "StretchedCarpetLaw"
abbrev cL_law : ByteArray := code
def yL_law : MethodName := ⟨RL, "law", "([I)Z"⟩
end
section
/-! ===== the layer: all objects at once, ints as Int ===== -/
section
/-- an int of the machine out of a whole number -/
def iI (z : Int) : Int32 := Int32.ofInt z
abbrev vI (z : Int) : Value := .int (iI z)
abbrev vR (r : Nat) : Value := .ref r
def lI (z : Int) : Int64 := Int64.ofInt z
abbrev vL (z : Int) : Value := .long (lI z)
theorem iI_add (a b : Int) : iI a + iI b = iI (a + b) := (Int32.ofInt_add a b).symm
theorem iI_sub (a b : Int) : iI a - iI b = iI (a - b) := (Int32.ofInt_sub a b).symm
theorem iI_mul (a b : Int) : iI a * iI b = iI (a * b) := (Int32.ofInt_mul a b).symm
abbrev sm (z : Int) : Prop := -2147483648 ≤ z ∧ z < 2147483648
theorem iI_toInt {z : Int} (h : sm z) : (iI z).toInt = z := Int32.toInt_ofInt_of_le (by have := h.1; omega) (by have := h.2; omega)
theorem iI_of (x : Int32) : iI x.toInt = x := Int32.ofInt_toInt x
theorem sm_of (x : Int32) : sm x.toInt := ⟨by have := x.le_toInt; omega, by have := x.toInt_lt; omega⟩
theorem iI_lt {a b : Int} (ha : sm a) (hb : sm b) : iI a < iI b ↔ a < b := by rw [Int32.lt_iff_toInt_lt, iI_toInt ha, iI_toInt hb]
theorem iI_le {a b : Int} (ha : sm a) (hb : sm b) : iI a ≤ iI b ↔ a ≤ b := by rw [Int32.le_iff_toInt_le, iI_toInt ha, iI_toInt hb]
theorem iI_eq {a b : Int} (ha : sm a) (hb : sm b) : iI a = iI b ↔ a = b := by rw [← Int32.toInt_inj, iI_toInt ha, iI_toInt hb]
theorem iI_0 : iI 0 = 0 := by decide +kernel
theorem iI_nat {z : Int} (h : sm z) : (iI z).toNatClampNeg = z.toNat := Int32.toNatClampNeg_ofInt_of_le (by have := h.1; omega) (by have := h.2; omega)
theorem iI_div {a b : Int} (ha : sm a) (hb : sm b) (h1 : b ≠ -1) : iI a / iI b = iI (a.tdiv b) := by
  apply Int32.toInt_inj.mp
  have hq : sm (a.tdiv b) := by
    have h2 : (a.tdiv b).natAbs ≤ a.natAbs := by rw [Int.natAbs_tdiv]; exact Nat.div_le_self _ _
    have := ha.1; have := ha.2
    rcases Int.lt_or_le a (-2147483647) with q | q
    · have e : a = -2147483648 := by omega
      subst e
      by_cases hb0 : b = 0
      · subst hb0; simp [sm]
      · by_cases hb1 : b = 1
        · subst hb1; simp [sm]
        · have h3 : (Int.tdiv (-2147483648) b).natAbs ≤ 1073741824 := by
            rw [Int.natAbs_tdiv]
            have : 2 ≤ b.natAbs := by omega
            calc (-2147483648 : Int).natAbs / b.natAbs ≤ (-2147483648 : Int).natAbs / 2 := Nat.div_le_div_left this (by omega)
              _ = 1073741824 := by decide
          constructor <;> omega
    · constructor <;> omega
  rw [Int32.toInt_div_of_ne_right _ _ (fun h => h1 ?_), iI_toInt ha, iI_toInt hb, iI_toInt hq]
  have := congrArg Int32.toInt h
  rw [iI_toInt hb] at this
  exact this
theorem iI_rem {a b : Int} (ha : sm a) (hb : sm b) : iI a % iI b = iI (a.tmod b) := by
  apply Int32.toInt_inj.mp
  have hq : sm (a.tmod b) := by
    have h2 : (a.tmod b).natAbs ≤ a.natAbs := by
      rw [Int.natAbs_tmod]; exact Nat.mod_le _ _
    have := ha.1; have := ha.2
    have h3 : 0 ≤ a → 0 ≤ a.tmod b := fun h => Int.tmod_nonneg b h
    have h4 : a ≤ 0 → a.tmod b ≤ 0 := fun h => by
      have q := Int.tmod_nonneg b (show 0 ≤ -a by omega)
      rw [Int.neg_tmod] at q
      omega
    constructor <;> omega
  rw [Int32.toInt_mod, iI_toInt ha, iI_toInt hb, iI_toInt hq]
theorem iI_in {z : Int} {n : Nat} (h : 0 ≤ z ∧ z < (n : Int)) (hn : n < 2147483648) : vp_in (iI z) n := by
  rw [vp_in_iff, iI_toInt ⟨by omega, by omega⟩]
  exact h
/-- what the machine's own operations make, as whole numbers -/
def zand (a b : Int) : Int := (iI a &&& iI b).toInt
def zor (a b : Int) : Int := (iI a ||| iI b).toInt
def zxor (a b : Int) : Int := (iI a ^^^ iI b).toInt
def zshl (a b : Int) : Int := (iI a <<< (iI b &&& 31)).toInt
def zshr (a b : Int) : Int := (iI a >>> (iI b &&& 31)).toInt
/-- a place's form: an array (0 ints, 1 chars, 2 carpets) with its length, or an object's class -/
abbrev Sh : Type := (Nat × Nat) ⊕ Nat
abbrev Wd : Type := Nat × (Nat → Int → Int) × (Nat → Int → Value)
abbrev Gm : Type := Launch × va_G × (Nat → ClassId) × Nat × Nat × Nat × (Nat → Int32)
/-- a method: its name, code, number of slots, answer's type, room -/
abbrev Mu : Type := MethodName × ByteArray × Nat × Option FieldType × Room
abbrev clsL : List vw_C := [(RX0, TX0, 8), (RX1, TX1, 8), (RX2, TX2, 3), (RX3, TX3, 13), (RX4, TX4, 3), (RX5, TX5, 3), (RX6, TX6, 11), (RX7, TX7, 27)]
abbrev tysL (Γ : Gm) : List (ClassId × FieldType) := [(Γ.2.2.1 0, .int), (Γ.2.2.1 1, .char), (Γ.2.2.1 2, .object RX0)]
def ad (Γ : Gm) (r : Nat) : Nat := if r = 999 then Γ.2.2.2.2.1 else Γ.2.2.2.1 + r
def cv (Γ : Gm) (v : Value) : Value := match v with
  | .ref r => .ref (ad Γ r)
  | v => v
def cvO (Γ : Gm) (v : Value) : Option Nat := match v with
  | .ref r => some (ad Γ r)
  | _ => none
def ksO : Nat → List Bool := fun ci => match ci with
  | 0 => [true, true, false, false, false, false, false, false]
  | 1 => [true, true, true, false, false, false, false, false]
  | 2 => [false, false, false]
  | 3 => [true, true, true, true, true, false, false, false, false, false, false, false, false]
  | 4 => [true, false, false]
  | 5 => [true, true, false]
  | 6 => [true, false, true, true, true, true, true, true, true, true, true]
  | _ => [false, true, false, false, false, false, true, true, true, false, false, true, true, true, true, true, true, false, true, false, false, true, true, true, false, false, false]
def nO : Nat → Nat := fun ci => (ksO ci).length
def obE (Γ : Gm) (ks : List Bool) (f : Int → Int) (g : Int → Value) (k : Nat) : Value := if ks.getD k false then cv Γ (g k) else vI (f k)
def cellE (Γ : Gm) (sh : Sh) (f : Int → Int) (g : Int → Value) : va_E := match sh with
  | .inl (2, n) => .inl (Γ.2.2.1 2, n, .inr (.inr (.inr (.inr (fun k => cvO Γ (g k))))))
  | .inl (t, n) => .inl (Γ.2.2.1 t, n, .inl (fun k => iI (f k)))
  | .inr ci => .inr (ci, (List.range (ksO ci).length).map (obE Γ (ksO ci) f g))
def shp : List Sh := [.inr 6, .inl (1, 200), .inr 3, .inl (0, 12), .inl (0, 12), .inl (0, 12), .inl (0, 12), .inl (0, 3), .inr 3, .inl (0, 12), .inl (0, 12), .inl (0, 12), .inl (0, 12), .inl (0, 3), .inr 0, .inl (0, 12), .inl (0, 4), .inr 0, .inl (0, 12), .inl (0, 4), .inr 4, .inl (2, 8), .inr 0, .inl (0, 12), .inl (0, 4), .inr 0, .inl (0, 12), .inl (0, 4), .inr 0, .inl (0, 12), .inl (0, 4), .inr 0, .inl (0, 12), .inl (0, 4), .inr 0, .inl (0, 12), .inl (0, 4), .inr 0, .inl (0, 12), .inl (0, 4), .inr 0, .inl (0, 12), .inl (0, 4), .inr 0, .inl (0, 12), .inl (0, 4), .inr 4, .inl (2, 2), .inr 0, .inl (0, 12), .inl (0, 4), .inr 0, .inl (0, 12), .inl (0, 4), .inr 5, .inl (0, 6), .inl (0, 6), .inr 1, .inl (0, 13), .inl (0, 13), .inl (0, 13), .inr 2, .inl (1, 84), .inr 7, .inl (0, 200), .inl (0, 36), .inl (0, 12), .inl (0, 6), .inl (0, 36), .inl (0, 12), .inl (0, 6), .inl (0, 32), .inl (0, 32), .inl (0, 256), .inl (0, 64), .inl (0, 12), .inl (0, 12), .inl (0, 12)]
def sh (w : Wd) (r : Nat) : Option Sh := if r < w.1 then shp[r]? else none
def wI (w : Wd) (r : Nat) (k : Int) : Int := w.2.1 r k
def wR (w : Wd) (r : Nat) (k : Int) : Value := w.2.2 r k
def stI (w : Wd) (r : Nat) (k : Int) (v : Int) : Wd := (w.1, (fun a i => if a = r ∧ i = k then v else w.2.1 a i), w.2.2)
def stR (w : Wd) (r : Nat) (k : Int) (v : Value) : Wd := (w.1, w.2.1, fun a i => if a = r ∧ i = k then v else w.2.2 a i)
theorem sh_stI (w : Wd) (r : Nat) (k v : Int) (a : Nat) : sh (stI w r k v) a = sh w a := rfl
theorem sh_stR (w : Wd) (r : Nat) (k : Int) (v : Value) (a : Nat) : sh (stR w r k v) a = sh w a := rfl
theorem wI_stI (w : Wd) (r : Nat) (k v : Int) (a : Nat) (i : Int) : wI (stI w r k v) a i = if a = r ∧ i = k then v else wI w a i := rfl
theorem wR_stI (w : Wd) (r : Nat) (k v : Int) (a : Nat) (i : Int) : wR (stI w r k v) a i = wR w a i := rfl
theorem wI_stR (w : Wd) (r : Nat) (k : Int) (v : Value) (a : Nat) (i : Int) : wI (stR w r k v) a i = wI w a i := rfl
theorem wR_stR (w : Wd) (r : Nat) (k : Int) (v : Value) (a : Nat) (i : Int) : wR (stR w r k v) a i = if a = r ∧ i = k then v else wR w a i := rfl
def wsE (Γ : Gm) (w : Wd) (r : Nat) : Nat × va_E := (Γ.2.2.2.1 + r, cellE Γ (shp.getD r (.inr 8)) (w.2.1 r) (w.2.2 r))
def wsW (Γ : Gm) (w : Wd) : va_W := (List.range w.1).map (wsE Γ w)
theorem wsW_at (Γ : Gm) {w : Wd} {r : Nat} {x : Sh} (h : sh w r = some x) : (wsW Γ w)[r]? = some (Γ.2.2.2.1 + r, cellE Γ x (w.2.1 r) (w.2.2 r)) := by
  unfold sh at h
  split at h
  · rename_i hr
    simp only [wsW, List.getElem?_map, List.getElem?_range hr, Option.map_some, wsE]
    rw [List.getD_eq_getElem?_getD, h]
    rfl
  · cases h
theorem wsW_len (Γ : Gm) (w : Wd) : (wsW Γ w).length = w.1 := by simp [wsW]
def Ab (Γ : Gm) : Nat → Prop := fun q => Γ.2.2.2.1 ≤ q
theorem wsW_D (Γ : Gm) (w : Wd) : va_D (Ab Γ) (wsW Γ w) := by
  have key : ∀ (k : Nat) (q : Nat × va_E), (wsW Γ w)[k]? = some q → q.1 = Γ.2.2.2.1 + k := by
    intro k q h
    simp only [wsW, List.getElem?_map, Option.map_eq_some_iff] at h
    obtain ⟨a, h1, rfl⟩ := h
    obtain ⟨h2, h3⟩ := List.getElem?_eq_some_iff.mp h1
    simp at h3
    subst h3
    rfl
  refine ⟨fun i j p q hi hj e => ?_, fun k q h => ?_⟩
  · have a := key i p hi
    have b := key j q hj
    omega
  · show Γ.2.2.2.1 ≤ q.1
    rw [key k q h]
    omega
/-- the picture of a heap -/
def PH (Γ : Gm) (w : Wd) (H : Heap) : Prop := va_P Γ.2.1 clsL (wsW Γ w) H
def PK (Γ : Gm) (U : State) : Prop := va_K Γ.2.1 clsL (tysL Γ) U ∧ va_AO RX0 U
theorem PK.moved {Γ : Gm} {u U : State} (hvm : u.vm.Alike U.vm) (h : PK Γ u) : PK Γ U := ⟨va_K.moved hvm h.1, va_AO.moved hvm h.2⟩
def PU (Γ : Gm) (w : Wd) (U : State) : Prop := PH Γ w U.heap ∧ PK Γ U
/-- what was written, and how much was made -/
def SS (Γ : Gm) (kc n : Nat) (s : State) (H : Heap) (locs : List Loc) : Prop := va_S (Ab Γ) s.heap H locs ∧ s.heap.size + kc = Γ.2.2.2.1 + n ∧ Γ.2.2.2.1 ≤ s.heap.size
/-- the words of the tables that every method has -/
def TB : List Cond := lw_tbl.filter goodWord
theorem tb_of {i : Nat} {c : Cond} (h : lw_tbl[i]? = some c) (hg : goodWord c = true) : c ∈ TB := List.mem_filter.mpr ⟨List.mem_of_getElem? h, hg⟩
theorem tb_good : GoodIn TB TB := fun w hw => ⟨hw, good_of_word (List.mem_filter.mp hw).2⟩
def wsM (μ : Mu) : List Cond := .code μ.1 μ.2.1 μ.2.2.1 μ.2.2.2.1 :: TB
theorem tb_goodM {μ : Mu} (h : Cond.code μ.1 μ.2.1 μ.2.2.1 μ.2.2.2.1 ∈ TB) : GoodIn TB (wsM μ) := fun w hw => by
  rcases List.mem_cons.mp hw with rfl | h2
  · exact tb_good _ h
  · exact tb_good _ h2
/-- the frame's slots -/
def LO (Γ : Gm) (n : Nat) (L : List (Option Value)) (ls : Array Slot) : Prop := L.length = n ∧ ls.size = n ∧ lv_wf ls ∧ ∀ (k : Nat) (v : Value), L[k]? = some (some v) → ls[k]? = some (.val (cv Γ v))
def lvF (Γ : Gm) (L : List (Option Value)) : List (Nat × Value) := (List.range L.length).filterMap fun k => (L[k]?.join).map fun v => (k, cv Γ v)
theorem lvF_mem {Γ : Gm} {L : List (Option Value)} {k : Nat} {v : Value} (h : L[k]? = some (some v)) : (k, cv Γ v) ∈ lvF Γ L := by
  refine List.mem_filterMap.mpr ⟨k, ?_, ?_⟩
  · exact List.mem_range.mpr (List.getElem?_eq_some_iff.mp h).1
  · simp [h]
theorem LO.has {Γ : Gm} {n : Nat} {L : List (Option Value)} {ls : Array Slot} (h : LO Γ n L ls) : lv_has ls n (lvF Γ L) := by
  refine ⟨h.2.1, h.2.2.1, fun q hq => ?_⟩
  obtain ⟨k, -, hk⟩ := List.mem_filterMap.mp hq
  simp only [Option.map_eq_some_iff] at hk
  obtain ⟨v, hv, rfl⟩ := hk
  exact h.2.2.2 k v (by
    cases hx : L[k]? with
    | none => rw [hx] at hv; cases hv
    | some o => rw [hx] at hv; simp only [Option.join_some] at hv; rw [hv])
/-- no long just ahead of slot i -/
def nl1 (L : List (Option Value)) (i : Nat) : Bool := match i with
  | 0 => true
  | j + 1 => match L[j]? with
    | some (some v) => v.category == 1
    | _ => true
theorem cv_cat (Γ : Gm) (v : Value) : (cv Γ v).category = v.category := by cases v <;> rfl
theorem LO.set1 {Γ : Gm} {n i : Nat} {L : List (Option Value)} {ls ls' : Array Slot} {v : Value} (h : LO Γ n L ls) (hi : i < n) (hn : nl1 L i = true)
    (h' : lv_has ls' n ((i, cv Γ v) :: (lvF Γ L).filter (fun q => !(q.1 == i) && !(q.1 + 1 == i && q.2.category == 2)))) : LO Γ n (L.set i (some v)) ls' := by
  refine ⟨by simpa using h.1, h'.1, h'.2.1, fun k x hk => ?_⟩
  by_cases e : k = i
  · subst e
    rw [List.getElem?_set_self (by rw [h.1]; exact hi)] at hk
    cases hk
    exact h'.2.2 _ List.mem_cons_self
  · rw [List.getElem?_set_ne (fun q => e q.symm)] at hk
    refine h'.2.2 (k, cv Γ x) (List.mem_cons_of_mem _ (List.mem_filter.mpr ⟨lvF_mem hk, ?_⟩))
    simp only [Bool.and_eq_true, Bool.not_eq_true', beq_eq_false_iff_ne, ne_eq, Bool.and_eq_false_iff]
    refine ⟨e, ?_⟩
    by_cases e2 : k + 1 = i
    · right
      subst e2
      simp only [nl1, hk, beq_iff_eq] at hn
      rw [cv_cat, hn]
      decide
    · left; exact e2
theorem LO.set2 {Γ : Gm} {n i : Nat} {L : List (Option Value)} {ls ls' : Array Slot} {v : Value} (h : LO Γ n L ls) (hi : i + 1 < n) (hn : nl1 L i = true)
    (h' : lv_has ls' n ((i, cv Γ v) :: (lvF Γ L).filter (fun q => !(q.1 == i) && (!(q.1 == i + 1) && !(q.1 + 1 == i && q.2.category == 2))))) : LO Γ n ((L.set i (some v)).set (i + 1) none) ls' := by
  refine ⟨by simpa using h.1, h'.1, h'.2.1, fun k x hk => ?_⟩
  by_cases e1 : k = i + 1
  · subst e1
    rw [List.getElem?_set_self (by rw [List.length_set, h.1]; exact hi)] at hk
    cases hk
  · rw [List.getElem?_set_ne (fun q => e1 q.symm)] at hk
    by_cases e : k = i
    · subst e
      rw [List.getElem?_set_self (by rw [h.1]; omega)] at hk
      cases hk
      exact h'.2.2 _ List.mem_cons_self
    · rw [List.getElem?_set_ne (fun q => e q.symm)] at hk
      refine h'.2.2 (k, cv Γ x) (List.mem_cons_of_mem _ (List.mem_filter.mpr ⟨lvF_mem hk, ?_⟩))
      simp only [Bool.and_eq_true, Bool.not_eq_true', beq_eq_false_iff_ne, ne_eq, Bool.and_eq_false_iff]
      refine ⟨e, e1, ?_⟩
      by_cases e2 : k + 1 = i
      · right
        subst e2
        simp only [nl1, hk, beq_iff_eq] at hn
        rw [cv_cat, hn]
        decide
      · left; exact e2
end
section
/-- what holds of the machine while a method runs -/
def Cx (Γ : Gm) (μ : Mu) (p : Program) (R : Room) (s : State) (m : MethodId) (args : Array Value) (meth : Method) (c : Code) : Prop :=
  p.tables.exec = Jvm.exec ∧ c.code = μ.2.1 ∧ c.maxLocals = μ.2.2.1 ∧ s.vm.findClass μ.1.cls = some m.cls ∧ (∀ w ∈ TB, w.before args s = true) ∧ R = μ.2.2.2.2 ∧ meth.name = μ.1.name ∧ PK Γ s ∧ (μ.1.cls = RL → va_X Γ.2.2.2.2.1 Γ.2.2.2.2.2.1 Γ.2.2.2.2.2.2 s s.heap ∧ Γ.2.2.2.2.1 < s.heap.size ∧ ¬ Ab Γ Γ.2.2.2.2.1)
/-- what an answer must be for its type -/
def rfit (ret : Option FieldType) (v : Option Value) : Prop := match ret, v with
  | none, none => True
  | some .int, some (.int _) => True
  | some .boolean, some (.int x) => x = iI 0 ∨ x = iI 1
  | some (.object _), some (.ref _) => True
  | some (.object _), some .null => True
  | some (.array _), some (.ref _) => True
  | _, _ => False
def isRet (b : ByteArray) (pc : Nat) (v : Option Value) : Prop := match v with
  | none => decode b pc = .ok (.return_, 1)
  | some (.int _) => decode b pc = .ok (.ireturn, 1)
  | some (.ref _) => decode b pc = .ok (.areturn, 1)
  | some .null => decode b pc = .ok (.areturn, 1)
  | _ => False
/-- the method's end is good for what stands behind it -/
def RO (Γ : Gm) (μ : Mu) (Ret : Option Value → Wd → Prop) (p : Program) (e : Env) (R : Room) (s : State) (m : MethodId) (args : Array Value) (below : List Frame) (meth : Method) (c : Code) (Q : State → Prop) : Prop :=
  ∀ (v : Option Value) (w : Wd) (H : Heap) (locs : List Loc) (kc ks pc : Nat) (ls : Array Slot), Ret v w → rfit μ.2.2.2.1 v → kc = R.cells → ks ≤ R.slots → PH Γ w H → SS Γ kc w.1 s H locs → isRet μ.2.1 pc v →
    W p Γ.1 e R s m args below meth c H locs kc ks Q (F0 m pc ls (v.toList.map (cv Γ)))
def G (Γ : Gm) (μ : Mu) (Ret : Option Value → Wd → Prop) (kc ks pc : Nat) (L : List (Option Value)) (st : List Value) (w : Wd) : Prop :=
  ∀ (p : Program) (e : Env) (R : Room) (s : State) (m : MethodId) (args : Array Value) (below : List Frame) (meth : Method) (c : Code) (H : Heap) (locs : List Loc) (Q : State → Prop) (ls : Array Slot),
    Cx Γ μ p R s m args meth c → RO Γ μ Ret p e R s m args below meth c Q → PH Γ w H → SS Γ kc w.1 s H locs → LO Γ μ.2.2.1 L ls →
    W p Γ.1 e R s m args below meth c H locs kc ks Q (F0 m pc ls (st.map (cv Γ)))
variable {Γ : Gm} {μ : Mu} {Ret : Option Value → Wd → Prop} {kc ks pc : Nat} {L : List (Option Value)} {st : List Value} {w : Wd}
theorem G_const {n : Int} (hd : decode μ.2.1 pc = .ok (.iconst n, 1)) (k : G Γ μ Ret kc ks (pc + 1) L (vI n :: st) w) : G Γ μ Ret kc ks pc L st w :=
  fun p e R s m args below meth c H locs Q ls C r P S o => lv_iconst (v := iI n) C.1 C.2.1 hd rfl (k p e R s m args below meth c H locs Q ls C r P S o)
theorem G_bipush {n : Int} (hd : decode μ.2.1 pc = .ok (.bipush n, 2)) (hn : (Int8.ofInt n).toInt32 = iI n) (k : G Γ μ Ret kc ks (pc + 2) L (vI n :: st) w) : G Γ μ Ret kc ks pc L st w :=
  fun p e R s m args below meth c H locs Q ls C r P S o => lv_bipush (v := iI n) C.1 C.2.1 hd hn (k p e R s m args below meth c H locs Q ls C r P S o)
theorem G_sipush {n : Int} (hd : decode μ.2.1 pc = .ok (.sipush n, 3)) (hn : (Int16.ofInt n).toInt32 = iI n) (k : G Γ μ Ret kc ks (pc + 3) L (vI n :: st) w) : G Γ μ Ret kc ks pc L st w :=
  fun p e R s m args below meth c H locs Q ls C r P S o => lv_sipush (v := iI n) C.1 C.2.1 hd hn (k p e R s m args below meth c H locs Q ls C r P S o)
theorem G_ldc {n : Int} {i : Nat} (hd : decode μ.2.1 pc = .ok (.ldc i, 2)) (hc : Cond.constant μ.1.cls i (iI n) ∈ TB) (k : G Γ μ Ret kc ks (pc + 2) L (vI n :: st) w) : G Γ μ Ret kc ks pc L st w :=
  fun p e R s m args below meth c H locs Q ls C r P S o => lv_ldc C.1 C.2.1 C.2.2.2.1 (C.2.2.2.2.1 _ hc) hd (k p e R s m args below meth c H locs Q ls C r P S o)
theorem G_iload {i : Nat} {z : Int} (hd : decode μ.2.1 pc = .ok (.iload i, 2)) (hl : L[i]? = some (some (vI z))) (k : G Γ μ Ret kc ks (pc + 2) L (vI z :: st) w) : G Γ μ Ret kc ks pc L st w :=
  fun p e R s m args below meth c H locs Q ls C r P S o => lv_iload C.1 C.2.1 hd (o.2.2.2 i _ hl) (k p e R s m args below meth c H locs Q ls C r P S o)
theorem G_iload_n {i : Fin 4} {z : Int} (hd : decode μ.2.1 pc = .ok (.iload_n i, 1)) (hl : L[i.val]? = some (some (vI z))) (k : G Γ μ Ret kc ks (pc + 1) L (vI z :: st) w) : G Γ μ Ret kc ks pc L st w :=
  fun p e R s m args below meth c H locs Q ls C r P S o => lv_iload_n C.1 C.2.1 hd rfl (o.2.2.2 i.val _ hl) (k p e R s m args below meth c H locs Q ls C r P S o)
theorem G_lload {i : Nat} {z : Int} (hd : decode μ.2.1 pc = .ok (.lload i, 2)) (hl : L[i]? = some (some (vL z))) (k : G Γ μ Ret kc ks (pc + 2) L (vL z :: st) w) : G Γ μ Ret kc ks pc L st w :=
  fun p e R s m args below meth c H locs Q ls C r P S o => lv_lload C.1 C.2.1 hd (o.2.2.2 i _ hl) (k p e R s m args below meth c H locs Q ls C r P S o)
theorem G_lload_n {i : Fin 4} {z : Int} (hd : decode μ.2.1 pc = .ok (.lload_n i, 1)) (hl : L[i.val]? = some (some (vL z))) (k : G Γ μ Ret kc ks (pc + 1) L (vL z :: st) w) : G Γ μ Ret kc ks pc L st w :=
  fun p e R s m args below meth c H locs Q ls C r P S o => lv_lload_n C.1 C.2.1 hd rfl (o.2.2.2 i.val _ hl) (k p e R s m args below meth c H locs Q ls C r P S o)
theorem G_aload {i : Nat} {x : Nat} (hd : decode μ.2.1 pc = .ok (.aload i, 2)) (hl : L[i]? = some (some (vR x))) (k : G Γ μ Ret kc ks (pc + 2) L (vR x :: st) w) : G Γ μ Ret kc ks pc L st w :=
  fun p e R s m args below meth c H locs Q ls C r P S o => lv_aload C.1 C.2.1 hd (o.2.2.2 i _ hl) (k p e R s m args below meth c H locs Q ls C r P S o)
theorem G_aload_n {i : Fin 4} {x : Nat} (hd : decode μ.2.1 pc = .ok (.aload_n i, 1)) (hl : L[i.val]? = some (some (vR x))) (k : G Γ μ Ret kc ks (pc + 1) L (vR x :: st) w) : G Γ μ Ret kc ks pc L st w :=
  fun p e R s m args below meth c H locs Q ls C r P S o => lv_aload_n C.1 C.2.1 hd rfl (o.2.2.2 i.val _ hl) (k p e R s m args below meth c H locs Q ls C r P S o)
theorem G_null (hd : decode μ.2.1 pc = .ok (.aconst_null, 1)) (k : G Γ μ Ret kc ks (pc + 1) L (.null :: st) w) : G Γ μ Ret kc ks pc L st w :=
  fun p e R s m args below meth c H locs Q ls C r P S o => lv_null C.1 C.2.1 hd (k p e R s m args below meth c H locs Q ls C r P S o)
theorem G_istore {i : Nat} {z : Int} (hd : decode μ.2.1 pc = .ok (.istore i, 2)) (hi : i < μ.2.2.1) (hn : nl1 L i = true) (k : G Γ μ Ret kc ks (pc + 2) (L.set i (some (vI z))) st w) : G Γ μ Ret kc ks pc L (vI z :: st) w :=
  fun p e R s m args below meth c H locs Q ls C r P S o => lv_istore C.1 C.2.1 hd o.has hi rfl (fun ls' h' => k p e R s m args below meth c H locs Q ls' C r P S (o.set1 hi hn h'))
theorem G_istore_n {i : Fin 4} {z : Int} (hd : decode μ.2.1 pc = .ok (.istore_n i, 1)) (hi : i.val < μ.2.2.1) (hn : nl1 L i.val = true) (k : G Γ μ Ret kc ks (pc + 1) (L.set i.val (some (vI z))) st w) : G Γ μ Ret kc ks pc L (vI z :: st) w :=
  fun p e R s m args below meth c H locs Q ls C r P S o => lv_istore_n C.1 C.2.1 hd rfl o.has hi rfl (fun ls' h' => k p e R s m args below meth c H locs Q ls' C r P S (o.set1 hi hn h'))
theorem G_astore_n {i : Fin 4} {x : Nat} (hd : decode μ.2.1 pc = .ok (.astore_n i, 1)) (hi : i.val < μ.2.2.1) (hn : nl1 L i.val = true) (k : G Γ μ Ret kc ks (pc + 1) (L.set i.val (some (vR x))) st w) : G Γ μ Ret kc ks pc L (vR x :: st) w :=
  fun p e R s m args below meth c H locs Q ls C r P S o => lv_astore_n C.1 C.2.1 hd rfl o.has hi rfl (fun ls' h' => k p e R s m args below meth c H locs Q ls' C r P S (o.set1 hi hn h'))
theorem G_astore_nN {i : Fin 4} (hd : decode μ.2.1 pc = .ok (.astore_n i, 1)) (hi : i.val < μ.2.2.1) (hn : nl1 L i.val = true) (k : G Γ μ Ret kc ks (pc + 1) (L.set i.val (some .null)) st w) : G Γ μ Ret kc ks pc L (.null :: st) w :=
  fun p e R s m args below meth c H locs Q ls C r P S o => lv_astore_nN C.1 C.2.1 hd rfl o.has hi rfl (fun ls' h' => k p e R s m args below meth c H locs Q ls' C r P S (o.set1 hi hn h'))
theorem G_lstore {i : Nat} {z : Int} (hd : decode μ.2.1 pc = .ok (.lstore i, 2)) (hi : i + 1 < μ.2.2.1) (hn : nl1 L i = true) (k : G Γ μ Ret kc ks (pc + 2) ((L.set i (some (vL z))).set (i + 1) none) st w) : G Γ μ Ret kc ks pc L (vL z :: st) w :=
  fun p e R s m args below meth c H locs Q ls C r P S o => lv_lstore C.1 C.2.1 hd o.has hi rfl (fun ls' h' => k p e R s m args below meth c H locs Q ls' C r P S (o.set2 hi hn h'))
theorem G_lstore_n {i : Fin 4} {z : Int} (hd : decode μ.2.1 pc = .ok (.lstore_n i, 1)) (hi : i.val + 1 < μ.2.2.1) (hn : nl1 L i.val = true) (k : G Γ μ Ret kc ks (pc + 1) ((L.set i.val (some (vL z))).set (i.val + 1) none) st w) : G Γ μ Ret kc ks pc L (vL z :: st) w :=
  fun p e R s m args below meth c H locs Q ls C r P S o => lv_lstore_n C.1 C.2.1 hd rfl o.has hi rfl (fun ls' h' => k p e R s m args below meth c H locs Q ls' C r P S (o.set2 hi hn h'))
theorem G_iinc {i : Nat} {n z : Int} (hd : decode μ.2.1 pc = .ok (.iinc i n, 3)) (hi : i < μ.2.2.1) (hn : nl1 L i = true) (hl : L[i]? = some (some (vI z))) (k : G Γ μ Ret kc ks (pc + 3) (L.set i (some (vI (z + n)))) st w) : G Γ μ Ret kc ks pc L st w :=
  fun p e R s m args below meth c H locs Q ls C r P S o => by
    obtain ⟨j, hj⟩ := List.getElem?_of_mem (lvF_mem (Γ := Γ) hl)
    exact lv_iinc (v := iI (z + n)) C.1 C.2.1 hd o.has hj (iI_add z n) hi rfl (fun ls' h' => k p e R s m args below meth c H locs Q ls' C r P S (o.set1 hi hn h'))
theorem G_goto {off : Int} {tgt : Nat} (hd : decode μ.2.1 pc = .ok (.goto off, 3)) (ht : (pc : Int) + off = (tgt : Int)) (k : G Γ μ Ret kc ks tgt L st w) : G Γ μ Ret kc ks pc L st w :=
  fun p e R s m args below meth c H locs Q ls C r P S o => lv_goto C.1 C.2.1 hd ht (k p e R s m args below meth c H locs Q ls C r P S o)
theorem G_dup {v : Value} (hd : decode μ.2.1 pc = .ok (.dup, 1)) (hv : v.category = 1) (k : G Γ μ Ret kc ks (pc + 1) L (v :: v :: st) w) : G Γ μ Ret kc ks pc L (v :: st) w :=
  fun p e R s m args below meth c H locs Q ls C r P S o => lv_dup C.1 C.2.1 hd (by rw [cv_cat]; exact hv) (k p e R s m args below meth c H locs Q ls C r P S o)
theorem G_dup2 {v u : Value} (hd : decode μ.2.1 pc = .ok (.dup2, 1)) (hv : v.category = 1) (hu : u.category = 1) (k : G Γ μ Ret kc ks (pc + 1) L (v :: u :: v :: u :: st) w) : G Γ μ Ret kc ks pc L (v :: u :: st) w :=
  fun p e R s m args below meth c H locs Q ls C r P S o => lv_dup2_11 C.1 C.2.1 hd (by rw [cv_cat]; exact hv) (by rw [cv_cat]; exact hu) (k p e R s m args below meth c H locs Q ls C r P S o)
theorem G_pop {v : Value} (hd : decode μ.2.1 pc = .ok (.pop, 1)) (hv : v.category = 1) (k : G Γ μ Ret kc ks (pc + 1) L st w) : G Γ μ Ret kc ks pc L (v :: st) w :=
  fun p e R s m args below meth c H locs Q ls C r P S o => lv_pop C.1 C.2.1 hd (by rw [cv_cat]; exact hv) (k p e R s m args below meth c H locs Q ls C r P S o)
theorem G_iadd {x y : Int} (hd : decode μ.2.1 pc = .ok (.iadd, 1)) (k : G Γ μ Ret kc ks (pc + 1) L (vI (x + y) :: st) w) : G Γ μ Ret kc ks pc L (vI y :: vI x :: st) w :=
  fun p e R s m args below meth c H locs Q ls C r P S o => lv_iadd C.1 C.2.1 hd (by rw [iI_add]; exact k p e R s m args below meth c H locs Q ls C r P S o)
theorem G_isub {x y : Int} (hd : decode μ.2.1 pc = .ok (.isub, 1)) (k : G Γ μ Ret kc ks (pc + 1) L (vI (x - y) :: st) w) : G Γ μ Ret kc ks pc L (vI y :: vI x :: st) w :=
  fun p e R s m args below meth c H locs Q ls C r P S o => lv_isub C.1 C.2.1 hd (by rw [iI_sub]; exact k p e R s m args below meth c H locs Q ls C r P S o)
theorem G_imul {x y : Int} (hd : decode μ.2.1 pc = .ok (.imul, 1)) (k : G Γ μ Ret kc ks (pc + 1) L (vI (x * y) :: st) w) : G Γ μ Ret kc ks pc L (vI y :: vI x :: st) w :=
  fun p e R s m args below meth c H locs Q ls C r P S o => lv_imul C.1 C.2.1 hd (by rw [iI_mul]; exact k p e R s m args below meth c H locs Q ls C r P S o)
theorem G_iand {x y : Int} (hd : decode μ.2.1 pc = .ok (.iand, 1)) (k : G Γ μ Ret kc ks (pc + 1) L (vI (zand x y) :: st) w) : G Γ μ Ret kc ks pc L (vI y :: vI x :: st) w :=
  fun p e R s m args below meth c H locs Q ls C r P S o => lv_iand C.1 C.2.1 hd (by have h := k p e R s m args below meth c H locs Q ls C r P S o; unfold vI zand at h; rw [iI_of] at h; exact h)
theorem G_ior {x y : Int} (hd : decode μ.2.1 pc = .ok (.ior, 1)) (k : G Γ μ Ret kc ks (pc + 1) L (vI (zor x y) :: st) w) : G Γ μ Ret kc ks pc L (vI y :: vI x :: st) w :=
  fun p e R s m args below meth c H locs Q ls C r P S o => lv_ior C.1 C.2.1 hd (by have h := k p e R s m args below meth c H locs Q ls C r P S o; unfold vI zor at h; rw [iI_of] at h; exact h)
theorem G_ixor {x y : Int} (hd : decode μ.2.1 pc = .ok (.ixor, 1)) (k : G Γ μ Ret kc ks (pc + 1) L (vI (zxor x y) :: st) w) : G Γ μ Ret kc ks pc L (vI y :: vI x :: st) w :=
  fun p e R s m args below meth c H locs Q ls C r P S o => lv_ixor C.1 C.2.1 hd (by have h := k p e R s m args below meth c H locs Q ls C r P S o; unfold vI zxor at h; rw [iI_of] at h; exact h)
theorem G_ishl {x y : Int} (hd : decode μ.2.1 pc = .ok (.ishl, 1)) (k : G Γ μ Ret kc ks (pc + 1) L (vI (zshl x y) :: st) w) : G Γ μ Ret kc ks pc L (vI y :: vI x :: st) w :=
  fun p e R s m args below meth c H locs Q ls C r P S o => lv_ishl C.1 C.2.1 hd (by have h := k p e R s m args below meth c H locs Q ls C r P S o; unfold vI zshl at h; rw [iI_of] at h; exact h)
theorem G_ishr {x y : Int} (hd : decode μ.2.1 pc = .ok (.ishr, 1)) (k : G Γ μ Ret kc ks (pc + 1) L (vI (zshr x y) :: st) w) : G Γ μ Ret kc ks pc L (vI y :: vI x :: st) w :=
  fun p e R s m args below meth c H locs Q ls C r P S o => lv_ishr C.1 C.2.1 hd (by have h := k p e R s m args below meth c H locs Q ls C r P S o; unfold vI zshr at h; rw [iI_of] at h; exact h)
theorem G_idiv {x y : Int} (hd : decode μ.2.1 pc = .ok (.idiv, 1)) (hx : sm x) (hy : sm y) (h0 : y ≠ 0) (h1 : y ≠ -1) (k : G Γ μ Ret kc ks (pc + 1) L (vI (x.tdiv y) :: st) w) : G Γ μ Ret kc ks pc L (vI y :: vI x :: st) w :=
  fun p e R s m args below meth c H locs Q ls C r P S o => lv_idiv C.1 C.2.1 hd (fun h => h0 ((iI_eq hy (by decide)).mp (h.trans iI_0.symm))) (by rw [iI_div hx hy h1]; exact k p e R s m args below meth c H locs Q ls C r P S o)
theorem G_irem {x y : Int} (hd : decode μ.2.1 pc = .ok (.irem, 1)) (hx : sm x) (hy : sm y) (h0 : y ≠ 0) (h1 : y ≠ -1) (k : G Γ μ Ret kc ks (pc + 1) L (vI (x.tmod y) :: st) w) : G Γ μ Ret kc ks pc L (vI y :: vI x :: st) w :=
  fun p e R s m args below meth c H locs Q ls C r P S o => lv_irem C.1 C.2.1 hd (fun h => h0 ((iI_eq hy (by decide)).mp (h.trans iI_0.symm))) (by
    have e1 : iI x - iI x / iI y * iI y = iI (x.tmod y) := by rw [iI_div hx hy h1, iI_mul, iI_sub, Int.tmod_def, Int.mul_comm]
    rw [e1]
    exact k p e R s m args below meth c H locs Q ls C r P S o)
theorem G_if_lt {x off : Int} {tgt : Nat} (hd : decode μ.2.1 pc = .ok (.ifCond .lt off, 3)) (ht : (pc : Int) + off = (tgt : Int)) (hx : sm x) (kt : x < 0 → G Γ μ Ret kc ks tgt L st w) (kf : ¬ (x < 0) → G Γ μ Ret kc ks (pc + 3) L st w) : G Γ μ Ret kc ks pc L (vI x :: st) w := by
  intro p e R s m args below meth c H locs Q ls C r P S o
  have e1 : (iI x < 0 ↔ x < 0) ∧ (0 < iI x ↔ 0 < x) ∧ (iI x ≤ 0 ↔ x ≤ 0) ∧ (0 ≤ iI x ↔ 0 ≤ x) ∧ (iI x = 0 ↔ x = 0) := by
    have hy : sm 0 := by decide
    rw [← iI_0]
    exact ⟨iI_lt hx hy, iI_lt hy hx, iI_le hx hy, iI_le hy hx, iI_eq hx hy⟩
  exact lv_if_lt C.1 C.2.1 hd ht (fun q => kt (by simpa only [e1.1, e1.2.1, e1.2.2.1, e1.2.2.2.1, e1.2.2.2.2, ne_eq] using q) p e R s m args below meth c H locs Q ls C r P S o) (fun q => kf (by simpa only [e1.1, e1.2.1, e1.2.2.1, e1.2.2.2.1, e1.2.2.2.2, ne_eq] using q) p e R s m args below meth c H locs Q ls C r P S o)
theorem G_icmp_lt {x y off : Int} {tgt : Nat} (hd : decode μ.2.1 pc = .ok (.if_icmp .lt off, 3)) (ht : (pc : Int) + off = (tgt : Int)) (hx : sm x) (hy : sm y) (kt : x < y → G Γ μ Ret kc ks tgt L st w) (kf : ¬ (x < y) → G Γ μ Ret kc ks (pc + 3) L st w) : G Γ μ Ret kc ks pc L (vI y :: vI x :: st) w := by
  intro p e R s m args below meth c H locs Q ls C r P S o
  have e1 : (iI x < iI y ↔ x < y) ∧ (iI y < iI x ↔ y < x) ∧ (iI x ≤ iI y ↔ x ≤ y) ∧ (iI y ≤ iI x ↔ y ≤ x) ∧ (iI x = iI y ↔ x = y) := by
    skip
    skip
    exact ⟨iI_lt hx hy, iI_lt hy hx, iI_le hx hy, iI_le hy hx, iI_eq hx hy⟩
  exact lv_icmp_lt C.1 C.2.1 hd ht (fun q => kt (by simpa only [e1.1, e1.2.1, e1.2.2.1, e1.2.2.2.1, e1.2.2.2.2, ne_eq] using q) p e R s m args below meth c H locs Q ls C r P S o) (fun q => kf (by simpa only [e1.1, e1.2.1, e1.2.2.1, e1.2.2.2.1, e1.2.2.2.2, ne_eq] using q) p e R s m args below meth c H locs Q ls C r P S o)
theorem G_if_ge {x off : Int} {tgt : Nat} (hd : decode μ.2.1 pc = .ok (.ifCond .ge off, 3)) (ht : (pc : Int) + off = (tgt : Int)) (hx : sm x) (kt : 0 ≤ x → G Γ μ Ret kc ks tgt L st w) (kf : ¬ (0 ≤ x) → G Γ μ Ret kc ks (pc + 3) L st w) : G Γ μ Ret kc ks pc L (vI x :: st) w := by
  intro p e R s m args below meth c H locs Q ls C r P S o
  have e1 : (iI x < 0 ↔ x < 0) ∧ (0 < iI x ↔ 0 < x) ∧ (iI x ≤ 0 ↔ x ≤ 0) ∧ (0 ≤ iI x ↔ 0 ≤ x) ∧ (iI x = 0 ↔ x = 0) := by
    have hy : sm 0 := by decide
    rw [← iI_0]
    exact ⟨iI_lt hx hy, iI_lt hy hx, iI_le hx hy, iI_le hy hx, iI_eq hx hy⟩
  exact lv_if_ge C.1 C.2.1 hd ht (fun q => kt (by simpa only [e1.1, e1.2.1, e1.2.2.1, e1.2.2.2.1, e1.2.2.2.2, ne_eq] using q) p e R s m args below meth c H locs Q ls C r P S o) (fun q => kf (by simpa only [e1.1, e1.2.1, e1.2.2.1, e1.2.2.2.1, e1.2.2.2.2, ne_eq] using q) p e R s m args below meth c H locs Q ls C r P S o)
theorem G_icmp_ge {x y off : Int} {tgt : Nat} (hd : decode μ.2.1 pc = .ok (.if_icmp .ge off, 3)) (ht : (pc : Int) + off = (tgt : Int)) (hx : sm x) (hy : sm y) (kt : y ≤ x → G Γ μ Ret kc ks tgt L st w) (kf : ¬ (y ≤ x) → G Γ μ Ret kc ks (pc + 3) L st w) : G Γ μ Ret kc ks pc L (vI y :: vI x :: st) w := by
  intro p e R s m args below meth c H locs Q ls C r P S o
  have e1 : (iI x < iI y ↔ x < y) ∧ (iI y < iI x ↔ y < x) ∧ (iI x ≤ iI y ↔ x ≤ y) ∧ (iI y ≤ iI x ↔ y ≤ x) ∧ (iI x = iI y ↔ x = y) := by
    skip
    skip
    exact ⟨iI_lt hx hy, iI_lt hy hx, iI_le hx hy, iI_le hy hx, iI_eq hx hy⟩
  exact lv_icmp_ge C.1 C.2.1 hd ht (fun q => kt (by simpa only [e1.1, e1.2.1, e1.2.2.1, e1.2.2.2.1, e1.2.2.2.2, ne_eq] using q) p e R s m args below meth c H locs Q ls C r P S o) (fun q => kf (by simpa only [e1.1, e1.2.1, e1.2.2.1, e1.2.2.2.1, e1.2.2.2.2, ne_eq] using q) p e R s m args below meth c H locs Q ls C r P S o)
theorem G_if_gt {x off : Int} {tgt : Nat} (hd : decode μ.2.1 pc = .ok (.ifCond .gt off, 3)) (ht : (pc : Int) + off = (tgt : Int)) (hx : sm x) (kt : 0 < x → G Γ μ Ret kc ks tgt L st w) (kf : ¬ (0 < x) → G Γ μ Ret kc ks (pc + 3) L st w) : G Γ μ Ret kc ks pc L (vI x :: st) w := by
  intro p e R s m args below meth c H locs Q ls C r P S o
  have e1 : (iI x < 0 ↔ x < 0) ∧ (0 < iI x ↔ 0 < x) ∧ (iI x ≤ 0 ↔ x ≤ 0) ∧ (0 ≤ iI x ↔ 0 ≤ x) ∧ (iI x = 0 ↔ x = 0) := by
    have hy : sm 0 := by decide
    rw [← iI_0]
    exact ⟨iI_lt hx hy, iI_lt hy hx, iI_le hx hy, iI_le hy hx, iI_eq hx hy⟩
  exact lv_if_gt C.1 C.2.1 hd ht (fun q => kt (by simpa only [e1.1, e1.2.1, e1.2.2.1, e1.2.2.2.1, e1.2.2.2.2, ne_eq] using q) p e R s m args below meth c H locs Q ls C r P S o) (fun q => kf (by simpa only [e1.1, e1.2.1, e1.2.2.1, e1.2.2.2.1, e1.2.2.2.2, ne_eq] using q) p e R s m args below meth c H locs Q ls C r P S o)
theorem G_icmp_gt {x y off : Int} {tgt : Nat} (hd : decode μ.2.1 pc = .ok (.if_icmp .gt off, 3)) (ht : (pc : Int) + off = (tgt : Int)) (hx : sm x) (hy : sm y) (kt : y < x → G Γ μ Ret kc ks tgt L st w) (kf : ¬ (y < x) → G Γ μ Ret kc ks (pc + 3) L st w) : G Γ μ Ret kc ks pc L (vI y :: vI x :: st) w := by
  intro p e R s m args below meth c H locs Q ls C r P S o
  have e1 : (iI x < iI y ↔ x < y) ∧ (iI y < iI x ↔ y < x) ∧ (iI x ≤ iI y ↔ x ≤ y) ∧ (iI y ≤ iI x ↔ y ≤ x) ∧ (iI x = iI y ↔ x = y) := by
    skip
    skip
    exact ⟨iI_lt hx hy, iI_lt hy hx, iI_le hx hy, iI_le hy hx, iI_eq hx hy⟩
  exact lv_icmp_gt C.1 C.2.1 hd ht (fun q => kt (by simpa only [e1.1, e1.2.1, e1.2.2.1, e1.2.2.2.1, e1.2.2.2.2, ne_eq] using q) p e R s m args below meth c H locs Q ls C r P S o) (fun q => kf (by simpa only [e1.1, e1.2.1, e1.2.2.1, e1.2.2.2.1, e1.2.2.2.2, ne_eq] using q) p e R s m args below meth c H locs Q ls C r P S o)
theorem G_if_le {x off : Int} {tgt : Nat} (hd : decode μ.2.1 pc = .ok (.ifCond .le off, 3)) (ht : (pc : Int) + off = (tgt : Int)) (hx : sm x) (kt : x ≤ 0 → G Γ μ Ret kc ks tgt L st w) (kf : ¬ (x ≤ 0) → G Γ μ Ret kc ks (pc + 3) L st w) : G Γ μ Ret kc ks pc L (vI x :: st) w := by
  intro p e R s m args below meth c H locs Q ls C r P S o
  have e1 : (iI x < 0 ↔ x < 0) ∧ (0 < iI x ↔ 0 < x) ∧ (iI x ≤ 0 ↔ x ≤ 0) ∧ (0 ≤ iI x ↔ 0 ≤ x) ∧ (iI x = 0 ↔ x = 0) := by
    have hy : sm 0 := by decide
    rw [← iI_0]
    exact ⟨iI_lt hx hy, iI_lt hy hx, iI_le hx hy, iI_le hy hx, iI_eq hx hy⟩
  exact lv_if_le C.1 C.2.1 hd ht (fun q => kt (by simpa only [e1.1, e1.2.1, e1.2.2.1, e1.2.2.2.1, e1.2.2.2.2, ne_eq] using q) p e R s m args below meth c H locs Q ls C r P S o) (fun q => kf (by simpa only [e1.1, e1.2.1, e1.2.2.1, e1.2.2.2.1, e1.2.2.2.2, ne_eq] using q) p e R s m args below meth c H locs Q ls C r P S o)
theorem G_icmp_le {x y off : Int} {tgt : Nat} (hd : decode μ.2.1 pc = .ok (.if_icmp .le off, 3)) (ht : (pc : Int) + off = (tgt : Int)) (hx : sm x) (hy : sm y) (kt : x ≤ y → G Γ μ Ret kc ks tgt L st w) (kf : ¬ (x ≤ y) → G Γ μ Ret kc ks (pc + 3) L st w) : G Γ μ Ret kc ks pc L (vI y :: vI x :: st) w := by
  intro p e R s m args below meth c H locs Q ls C r P S o
  have e1 : (iI x < iI y ↔ x < y) ∧ (iI y < iI x ↔ y < x) ∧ (iI x ≤ iI y ↔ x ≤ y) ∧ (iI y ≤ iI x ↔ y ≤ x) ∧ (iI x = iI y ↔ x = y) := by
    skip
    skip
    exact ⟨iI_lt hx hy, iI_lt hy hx, iI_le hx hy, iI_le hy hx, iI_eq hx hy⟩
  exact lv_icmp_le C.1 C.2.1 hd ht (fun q => kt (by simpa only [e1.1, e1.2.1, e1.2.2.1, e1.2.2.2.1, e1.2.2.2.2, ne_eq] using q) p e R s m args below meth c H locs Q ls C r P S o) (fun q => kf (by simpa only [e1.1, e1.2.1, e1.2.2.1, e1.2.2.2.1, e1.2.2.2.2, ne_eq] using q) p e R s m args below meth c H locs Q ls C r P S o)
theorem G_if_eq {x off : Int} {tgt : Nat} (hd : decode μ.2.1 pc = .ok (.ifCond .eq off, 3)) (ht : (pc : Int) + off = (tgt : Int)) (hx : sm x) (kt : x = 0 → G Γ μ Ret kc ks tgt L st w) (kf : ¬ (x = 0) → G Γ μ Ret kc ks (pc + 3) L st w) : G Γ μ Ret kc ks pc L (vI x :: st) w := by
  intro p e R s m args below meth c H locs Q ls C r P S o
  have e1 : (iI x < 0 ↔ x < 0) ∧ (0 < iI x ↔ 0 < x) ∧ (iI x ≤ 0 ↔ x ≤ 0) ∧ (0 ≤ iI x ↔ 0 ≤ x) ∧ (iI x = 0 ↔ x = 0) := by
    have hy : sm 0 := by decide
    rw [← iI_0]
    exact ⟨iI_lt hx hy, iI_lt hy hx, iI_le hx hy, iI_le hy hx, iI_eq hx hy⟩
  exact lv_if_eq C.1 C.2.1 hd ht (fun q => kt (by simpa only [e1.1, e1.2.1, e1.2.2.1, e1.2.2.2.1, e1.2.2.2.2, ne_eq] using q) p e R s m args below meth c H locs Q ls C r P S o) (fun q => kf (by simpa only [e1.1, e1.2.1, e1.2.2.1, e1.2.2.2.1, e1.2.2.2.2, ne_eq] using q) p e R s m args below meth c H locs Q ls C r P S o)
theorem G_icmp_eq {x y off : Int} {tgt : Nat} (hd : decode μ.2.1 pc = .ok (.if_icmp .eq off, 3)) (ht : (pc : Int) + off = (tgt : Int)) (hx : sm x) (hy : sm y) (kt : x = y → G Γ μ Ret kc ks tgt L st w) (kf : ¬ (x = y) → G Γ μ Ret kc ks (pc + 3) L st w) : G Γ μ Ret kc ks pc L (vI y :: vI x :: st) w := by
  intro p e R s m args below meth c H locs Q ls C r P S o
  have e1 : (iI x < iI y ↔ x < y) ∧ (iI y < iI x ↔ y < x) ∧ (iI x ≤ iI y ↔ x ≤ y) ∧ (iI y ≤ iI x ↔ y ≤ x) ∧ (iI x = iI y ↔ x = y) := by
    skip
    skip
    exact ⟨iI_lt hx hy, iI_lt hy hx, iI_le hx hy, iI_le hy hx, iI_eq hx hy⟩
  exact lv_icmp_eq C.1 C.2.1 hd ht (fun q => kt (by simpa only [e1.1, e1.2.1, e1.2.2.1, e1.2.2.2.1, e1.2.2.2.2, ne_eq] using q) p e R s m args below meth c H locs Q ls C r P S o) (fun q => kf (by simpa only [e1.1, e1.2.1, e1.2.2.1, e1.2.2.2.1, e1.2.2.2.2, ne_eq] using q) p e R s m args below meth c H locs Q ls C r P S o)
theorem G_if_ne {x off : Int} {tgt : Nat} (hd : decode μ.2.1 pc = .ok (.ifCond .ne off, 3)) (ht : (pc : Int) + off = (tgt : Int)) (hx : sm x) (kt : x ≠ 0 → G Γ μ Ret kc ks tgt L st w) (kf : x = 0 → G Γ μ Ret kc ks (pc + 3) L st w) : G Γ μ Ret kc ks pc L (vI x :: st) w := by
  intro p e R s m args below meth c H locs Q ls C r P S o
  have e1 : (iI x < 0 ↔ x < 0) ∧ (0 < iI x ↔ 0 < x) ∧ (iI x ≤ 0 ↔ x ≤ 0) ∧ (0 ≤ iI x ↔ 0 ≤ x) ∧ (iI x = 0 ↔ x = 0) := by
    have hy : sm 0 := by decide
    rw [← iI_0]
    exact ⟨iI_lt hx hy, iI_lt hy hx, iI_le hx hy, iI_le hy hx, iI_eq hx hy⟩
  exact lv_if_ne C.1 C.2.1 hd ht (fun q => kt (by simpa only [e1.1, e1.2.1, e1.2.2.1, e1.2.2.2.1, e1.2.2.2.2, ne_eq] using q) p e R s m args below meth c H locs Q ls C r P S o) (fun q => kf (by simpa only [e1.1, e1.2.1, e1.2.2.1, e1.2.2.2.1, e1.2.2.2.2, ne_eq] using q) p e R s m args below meth c H locs Q ls C r P S o)
theorem G_icmp_ne {x y off : Int} {tgt : Nat} (hd : decode μ.2.1 pc = .ok (.if_icmp .ne off, 3)) (ht : (pc : Int) + off = (tgt : Int)) (hx : sm x) (hy : sm y) (kt : x ≠ y → G Γ μ Ret kc ks tgt L st w) (kf : x = y → G Γ μ Ret kc ks (pc + 3) L st w) : G Γ μ Ret kc ks pc L (vI y :: vI x :: st) w := by
  intro p e R s m args below meth c H locs Q ls C r P S o
  have e1 : (iI x < iI y ↔ x < y) ∧ (iI y < iI x ↔ y < x) ∧ (iI x ≤ iI y ↔ x ≤ y) ∧ (iI y ≤ iI x ↔ y ≤ x) ∧ (iI x = iI y ↔ x = y) := by
    skip
    skip
    exact ⟨iI_lt hx hy, iI_lt hy hx, iI_le hx hy, iI_le hy hx, iI_eq hx hy⟩
  exact lv_icmp_ne C.1 C.2.1 hd ht (fun q => kt (by simpa only [e1.1, e1.2.1, e1.2.2.1, e1.2.2.2.1, e1.2.2.2.2, ne_eq] using q) p e R s m args below meth c H locs Q ls C r P S o) (fun q => kf (by simpa only [e1.1, e1.2.1, e1.2.2.1, e1.2.2.2.1, e1.2.2.2.2, ne_eq] using q) p e R s m args below meth c H locs Q ls C r P S o)
-- longs
abbrev sm8 (z : Int) : Prop := -9223372036854775808 ≤ z ∧ z < 9223372036854775808
theorem lI_add (a b : Int) : lI a + lI b = lI (a + b) := (Int64.ofInt_add a b).symm
theorem lI_sub (a b : Int) : lI a - lI b = lI (a - b) := (Int64.ofInt_sub a b).symm
theorem lI_mul (a b : Int) : lI a * lI b = lI (a * b) := (Int64.ofInt_mul a b).symm
theorem lI_div {a b : Int} (ha : sm8 a) (hb : sm8 b) : lI a / lI b = lI (a.tdiv b) := (Int64.ofInt_tdiv (by have := ha.1; show (-9223372036854775808 : Int) ≤ a; omega) (by have := ha.2; show a ≤ (9223372036854775807 : Int); omega) (by have := hb.1; show (-9223372036854775808 : Int) ≤ b; omega) (by have := hb.2; show b ≤ (9223372036854775807 : Int); omega)).symm
theorem lI_toInt {z : Int} (h : sm8 z) : (lI z).toInt = z := Int64.toInt_ofInt_of_le (by have := h.1; omega) (by have := h.2; omega)
theorem lI_ne0 {z : Int} (h : sm8 z) (h0 : z ≠ 0) : ¬ lI z = 0 := fun q => h0 (by
  have e := congrArg Int64.toInt q
  rw [lI_toInt h] at e
  exact e)
theorem G_lconst {n : Fin 2} (hd : decode μ.2.1 pc = .ok (.lconst n, 1)) (k : G Γ μ Ret kc ks (pc + 1) L (vL (n.val : Int) :: st) w) : G Γ μ Ret kc ks pc L st w :=
  fun p e R s m args below meth c H locs Q ls C r P S o => lv_lconst (v := lI (n.val : Int)) C.1 C.2.1 hd (by match n with | 0 => decide +kernel | 1 => decide +kernel) (k p e R s m args below meth c H locs Q ls C r P S o)
theorem G_ldc2 {n : Int} {i : Nat} (hd : decode μ.2.1 pc = .ok (.ldc2_w i, 3)) (hc : Cond.constantLong μ.1.cls i (lI n) ∈ TB) (k : G Γ μ Ret kc ks (pc + 3) L (vL n :: st) w) : G Γ μ Ret kc ks pc L st w :=
  fun p e R s m args below meth c H locs Q ls C r P S o => lv_ldc2 C.1 C.2.1 C.2.2.2.1 (C.2.2.2.2.1 _ hc) hd (k p e R s m args below meth c H locs Q ls C r P S o)
theorem G_ladd {x y : Int} (hd : decode μ.2.1 pc = .ok (.ladd, 1)) (k : G Γ μ Ret kc ks (pc + 1) L (vL (x + y) :: st) w) : G Γ μ Ret kc ks pc L (vL y :: vL x :: st) w :=
  fun p e R s m args below meth c H locs Q ls C r P S o => lv_ladd C.1 C.2.1 hd (by rw [lI_add]; exact k p e R s m args below meth c H locs Q ls C r P S o)
theorem G_lmul {x y : Int} (hd : decode μ.2.1 pc = .ok (.lmul, 1)) (k : G Γ μ Ret kc ks (pc + 1) L (vL (x * y) :: st) w) : G Γ μ Ret kc ks pc L (vL y :: vL x :: st) w :=
  fun p e R s m args below meth c H locs Q ls C r P S o => lv_lmul C.1 C.2.1 hd (by rw [lI_mul]; exact k p e R s m args below meth c H locs Q ls C r P S o)
theorem G_ldiv {x y : Int} (hd : decode μ.2.1 pc = .ok (.ldiv, 1)) (hx : sm8 x) (hy : sm8 y) (h0 : y ≠ 0) (k : G Γ μ Ret kc ks (pc + 1) L (vL (x.tdiv y) :: st) w) : G Γ μ Ret kc ks pc L (vL y :: vL x :: st) w :=
  fun p e R s m args below meth c H locs Q ls C r P S o => lv_ldiv C.1 C.2.1 hd (lI_ne0 hy h0) (by rw [lI_div hx hy]; exact k p e R s m args below meth c H locs Q ls C r P S o)
theorem G_lrem {x y : Int} (hd : decode μ.2.1 pc = .ok (.lrem, 1)) (hx : sm8 x) (hy : sm8 y) (h0 : y ≠ 0) (k : G Γ μ Ret kc ks (pc + 1) L (vL (x.tmod y) :: st) w) : G Γ μ Ret kc ks pc L (vL y :: vL x :: st) w :=
  fun p e R s m args below meth c H locs Q ls C r P S o => lv_lrem C.1 C.2.1 hd (lI_ne0 hy h0) (by
    have e1 : lI x - lI x / lI y * lI y = lI (x.tmod y) := by rw [lI_div hx hy, lI_mul, lI_sub, Int.tmod_def, Int.mul_comm]
    rw [e1]
    exact k p e R s m args below meth c H locs Q ls C r P S o)
theorem G_i2l {x : Int} (hd : decode μ.2.1 pc = .ok (.i2l, 1)) (hx : sm x) (k : G Γ μ Ret kc ks (pc + 1) L (vL x :: st) w) : G Γ μ Ret kc ks pc L (vI x :: st) w :=
  fun p e R s m args below meth c H locs Q ls C r P S o => lv_i2l (v := lI x) C.1 C.2.1 hd (Int32.toInt64_ofInt (by have := hx.1; show (-2147483648 : Int) ≤ x; omega) (by have := hx.2; show x ≤ (2147483647 : Int); omega)) (k p e R s m args below meth c H locs Q ls C r P S o)
theorem G_l2i {x : Int} (hd : decode μ.2.1 pc = .ok (.l2i, 1)) (k : G Γ μ Ret kc ks (pc + 1) L (vI x :: st) w) : G Γ μ Ret kc ks pc L (vL x :: st) w :=
  fun p e R s m args below meth c H locs Q ls C r P S o => lv_l2i (v := iI x) C.1 C.2.1 hd Int64.toInt32_ofInt (k p e R s m args below meth c H locs Q ls C r P S o)
-- small things
theorem iI_char {z : Int} (h : 0 ≤ z ∧ z < 65536) : ((iI z).toUInt32 % 65536).toInt32 = iI z := by
  obtain ⟨n, rfl⟩ : ∃ n : Nat, z = n := ⟨z.toNat, by omega⟩
  have hn : n < 65536 := by omega
  apply Int32.toBitVec_inj.mp
  simp only [iI, UInt32.toBitVec_toInt32, UInt32.toBitVec_mod, Int32.toBitVec_toUInt32, Int32.toBitVec_ofInt]
  apply BitVec.eq_of_toNat_eq
  simp only [BitVec.toNat_umod, BitVec.toNat_ofInt, UInt32.toNat_toBitVec, UInt32.toNat_ofNat]
  have e1 : ((2 ^ 32 : Nat) : Int) = 4294967296 := by decide
  have e2 : 65536 % 2 ^ 32 = 65536 := by decide
  rw [e1, e2]
  omega
theorem G_i2c {x : Int} (hd : decode μ.2.1 pc = .ok (.i2c, 1)) (hx : 0 ≤ x ∧ x < 65536) (k : G Γ μ Ret kc ks (pc + 1) L (vI x :: st) w) : G Γ μ Ret kc ks pc L (vI x :: st) w :=
  fun p e R s m args below meth c H locs Q ls C r P S o => lv_i2c (v := iI x) C.1 C.2.1 hd (iI_char hx) (k p e R s m args below meth c H locs Q ls C r P S o)
def zushr (a b : Int) : Int := ((iI a).toUInt32 >>> ((iI b).toUInt32 &&& Int32.toUInt32 31)).toInt32.toInt
theorem G_iushr {x y : Int} (hd : decode μ.2.1 pc = .ok (.iushr, 1)) (k : G Γ μ Ret kc ks (pc + 1) L (vI (zushr x y) :: st) w) : G Γ μ Ret kc ks pc L (vI y :: vI x :: st) w :=
  fun p e R s m args below meth c H locs Q ls C r P S o => lv_iushr C.1 C.2.1 hd rfl (by have h := k p e R s m args below meth c H locs Q ls C r P S o; unfold vI zushr at h; rw [iI_of] at h; exact h)
theorem G_tableIn {dflt lo hi : Int} {offs : Array Int} {len : Nat} {z off : Int} {tgt : Nat} (hd : decode μ.2.1 pc = .ok (.tableswitch dflt lo hi offs, len)) (hz : sm z) (h1 : ¬ z < lo) (h2 : ¬ hi < z) (ho : offs[(z - lo).toNat]? = some off) (ht : (pc : Int) + off = (tgt : Int)) (k : G Γ μ Ret kc ks tgt L st w) : G Γ μ Ret kc ks pc L (vI z :: st) w :=
  fun p e R s m args below meth c H locs Q ls C r P S o => lv_tableIn C.1 C.2.1 hd (by rw [iI_toInt hz]; exact h1) (by rw [iI_toInt hz]; exact h2) (by rw [iI_toInt hz]; exact ho) ht (k p e R s m args below meth c H locs Q ls C r P S o)
theorem G_tableOut {dflt lo hi : Int} {offs : Array Int} {len : Nat} {z : Int} {tgt : Nat} (hd : decode μ.2.1 pc = .ok (.tableswitch dflt lo hi offs, len)) (hz : sm z) (h : z < lo ∨ hi < z) (ht : (pc : Int) + dflt = (tgt : Int)) (k : G Γ μ Ret kc ks tgt L st w) : G Γ μ Ret kc ks pc L (vI z :: st) w :=
  fun p e R s m args below meth c H locs Q ls C r P S o => lv_tableOut C.1 C.2.1 hd (by rw [iI_toInt hz]; exact h) ht (k p e R s m args below meth c H locs Q ls C r P S o)
theorem G_lookup {dflt : Int} {ps : Array (Int × Int)} {len : Nat} {z off : Int} {tgt : Nat} (hd : decode μ.2.1 pc = .ok (.lookupswitch dflt ps, len)) (hz : sm z) (hp : (ps.toList.zip (ps.toList.drop 1)).all (fun (a, next) => a.1 < next.1) = true) (ho : Op.lookupswitch.offset ps.toList dflt z = off) (ht : (pc : Int) + off = (tgt : Int)) (k : G Γ μ Ret kc ks tgt L st w) : G Γ μ Ret kc ks pc L (vI z :: st) w :=
  fun p e R s m args below meth c H locs Q ls C r P S o => lv_lookup C.1 C.2.1 hd hp (by rw [iI_toInt hz]; exact ho) ht (k p e R s m args below meth c H locs Q ls C r P S o)
theorem G_ifnull {x : Nat} {off : Int} (hd : decode μ.2.1 pc = .ok (.ifnull off, 3)) (k : G Γ μ Ret kc ks (pc + 3) L st w) : G Γ μ Ret kc ks pc L (vR x :: st) w :=
  fun p e R s m args below meth c H locs Q ls C r P S o => lv_ifnull C.1 C.2.1 hd (k p e R s m args below meth c H locs Q ls C r P S o)
theorem G_ifnonnull {x : Nat} {off : Int} {tgt : Nat} (hd : decode μ.2.1 pc = .ok (.ifnonnull off, 3)) (ht : (pc : Int) + off = (tgt : Int)) (k : G Γ μ Ret kc ks tgt L st w) : G Γ μ Ret kc ks pc L (vR x :: st) w :=
  fun p e R s m args below meth c H locs Q ls C r P S o => lv_ifnonnull C.1 C.2.1 hd ht (k p e R s m args below meth c H locs Q ls C r P S o)
theorem G_ret (v : Option Value) (hd : isRet μ.2.1 pc v) (hf : rfit μ.2.2.2.1 v) (hk : kc = μ.2.2.2.2.cells ∧ ks ≤ μ.2.2.2.2.slots) (h : Ret v w) : G Γ μ Ret kc ks pc L v.toList w :=
  fun p e R s m args below meth c H locs Q ls C r P S o => r v w H locs kc ks pc ls h hf (by rw [C.2.2.2.2.2.1]; exact hk.1) (by rw [C.2.2.2.2.2.1]; exact hk.2) P S hd
theorem G_forget {L' : List (Option Value)} (h : ∀ (k : Nat) (v : Value), L'[k]? = some (some v) → L[k]? = some (some v)) (hl : L'.length = L.length) (k : G Γ μ Ret kc ks pc L' st w) : G Γ μ Ret kc ks pc L st w :=
  fun p e R s m args below meth c H locs Q ls C r P S o => k p e R s m args below meth c H locs Q ls C r P S ⟨hl.trans o.1, o.2.1, o.2.2.1, fun i v hv => o.2.2.2 i v (h i v hv)⟩
/-- L' knows no more than L -/
def lle : List (Option Value) → List (Option Value) → Prop
  | [], [] => True
  | none :: a, _ :: b => lle a b
  | some v :: a, x :: b => x = some v ∧ lle a b
  | _, _ => False
theorem lle_at : ∀ (a b : List (Option Value)), lle a b → a.length = b.length ∧ ∀ (k : Nat) (v : Value), a[k]? = some (some v) → b[k]? = some (some v)
  | [], [], _ => ⟨rfl, fun k v h => by simp at h⟩
  | none :: a, x :: b, h => by
    obtain ⟨h1, h2⟩ := lle_at a b h
    refine ⟨by simp [h1], fun k v hk => ?_⟩
    cases k with
    | zero => simp at hk
    | succ k => simpa using h2 k v (by simpa using hk)
  | some u :: a, x :: b, h => by
    obtain ⟨h0, h⟩ := h
    obtain ⟨h1, h2⟩ := lle_at a b h
    refine ⟨by simp [h1], fun k v hk => ?_⟩
    cases k with
    | zero => simpa [h0] using hk
    | succ k => simpa using h2 k v (by simpa using hk)
  | [], _ :: _, h => h.elim
  | none :: _, [], h => h.elim
  | some _ :: _, [], h => h.elim
theorem G_less {L' : List (Option Value)} (h : lle L' L) (k : G Γ μ Ret kc ks pc L' st w) : G Γ μ Ret kc ks pc L st w := G_forget (lle_at L' L h).2 (lle_at L' L h).1 k
theorem G_mono {Ret' : Option Value → Wd → Prop} (h : ∀ v u, Ret v u → Ret' v u) (k : G Γ μ Ret kc ks pc L st w) : G Γ μ Ret' kc ks pc L st w :=
  fun p e R s m args below meth c H locs Q ls C r P S o => k p e R s m args below meth c H locs Q ls C (fun v u H1 l1 kc1 ks1 pc1 ls1 hv => r v u H1 l1 kc1 ks1 pc1 ls1 (h v u hv)) P S o
-- fields
/-- what the tables say of a class -/
def CW (C : String) (T : u_T) (N : Nat) (ty0 : Nat → FieldType) : Prop := (∀ w ∈ u_ws C T N, w ∈ TB) ∧ (∀ k, k < N → parseFieldDescriptor (T k).2.2.1 = some (ty0 k)) ∧ ∀ a, a < N → ∀ b, b < N → a ≠ b → (T a).2.1 ≠ (T b).2.1
/-- own's place idx names field k of class ci -/
def FL (own : String) (idx ci k : Nat) (fin : Bool) (desc : String) : Prop := ∃ (C : String) (T : u_T) (N : Nat) (ty0 : Nat → FieldType), clsL[ci]? = some (C, T, N) ∧ k < N ∧ CW C T N ty0 ∧ (T k).1 = C ∧ (T k).2.2.1 = desc ∧ (T k).2.2.2 = fin ∧ (ksO ci).length = N ∧
  (Cond.fieldLink own idx C (T k).2.1 (T k).2.2.1 ∈ TB ∨ (fin = false ∨ own ≠ C) ∧ ∃ host, Cond.fieldLinkNest own idx C (T k).2.1 (T k).2.2.1 host ∈ TB)
theorem tb_nw {args : Array Value} {s : State} {c : Cond} (h : c.before args s = true) (ho : c.onTables = true) : va_Nw c s := va_tabs ho (rfl : s.vm = s.vm) h
theorem obE_at (Γ : Gm) {ks : List Bool} (f : Int → Int) (g : Int → Value) {k : Nat} (hk : k < ks.length) : ((List.range ks.length).map (obE Γ ks f g))[k]? = some (obE Γ ks f g k) := by
  simp [List.getElem?_map, List.getElem?_range hk]
theorem sh_ne {r : Nat} {x : Sh} (hs : sh w r = some x) : r ≠ 999 := by
  intro q
  subst q
  unfold sh at hs
  split at hs
  · have e : shp[999]? = none := by decide +kernel
    rw [e] at hs
    cases hs
  · cases hs
theorem cv_R (Γ : Gm) {r : Nat} {x : Sh} (hs : sh w r = some x) : cv Γ (vR r) = .ref (Γ.2.2.2.1 + r) := by
  show Value.ref (ad Γ r) = _
  rw [ad, if_neg (sh_ne hs)]
theorem G_get {idx r ci k : Nat} {fin : Bool} {desc : String} {v : Value} (hd : decode μ.2.1 pc = .ok (.getfield idx, 3)) (hf : FL μ.1.cls idx ci k fin desc) (hs : sh w r = some (.inr ci)) (hv : obE Γ (ksO ci) (w.2.1 r) (w.2.2 r) k = cv Γ v) (kk : G Γ μ Ret kc ks (pc + 3) L (v :: st) w) : G Γ μ Ret kc ks pc L (vR r :: st) w := by
  intro p e R s m args below meth c H locs Q ls C r0 P S o
  obtain ⟨Cn, T, N, ty0, hc, hkN, hW, hT1, hT2, hT3, hlen, hl⟩ := hf
  have hK := C.2.2.2.2.2.2.2.1.1
  have hat := wsW_at Γ hs
  have hts := C.2.2.2.2.1
  have h3 := kk p e R s m args below meth c H locs Q ls C r0 P S o
  show W _ _ _ _ _ _ _ _ _ _ _ _ _ _ _ (F0 m pc ls (cv Γ (vR r) :: st.map (cv Γ)))
  rw [cv_R Γ hs]
  have hv' : ((List.range (ksO ci).length).map (obE Γ (ksO ci) (w.2.1 r) (w.2.2 r)))[k]? = some (cv Γ v) := by rw [obE_at Γ _ _ (by rw [hlen]; exact hkN), hv]
  rcases hl with hl | ⟨-, host, hl⟩
  · exact va_get (C := Cn) (T := T) (N := N) (ref := Cn) C.1 C.2.1 hts hW.1 C.2.2.2.1 hK P r hat hc k hkN (hts _ hl) (fun x h9 => by rw [hT1] at h9; exact h9) hv' hd h3
  · exact va_getN (C := Cn) (T := T) (N := N) (ref := Cn) (host := host) C.1 C.2.1 hts hW.1 C.2.2.2.1 hK P r hat hc k hkN (hts _ hl) (fun x h9 => by rw [hT1] at h9; exact h9) hv' hd h3
theorem G_getI {idx r ci k : Nat} {fin : Bool} {desc : String} (hd : decode μ.2.1 pc = .ok (.getfield idx, 3)) (hf : FL μ.1.cls idx ci k fin desc) (hs : sh w r = some (.inr ci)) (hk : (ksO ci).getD k false = false) (kk : G Γ μ Ret kc ks (pc + 3) L (vI (wI w r k) :: st) w) : G Γ μ Ret kc ks pc L (vR r :: st) w :=
  G_get (v := vI (wI w r k)) hd hf hs (by unfold obE; rw [hk]; rfl) kk
theorem G_getR {idx r ci k q : Nat} {fin : Bool} {desc : String} (hd : decode μ.2.1 pc = .ok (.getfield idx, 3)) (hf : FL μ.1.cls idx ci k fin desc) (hs : sh w r = some (.inr ci)) (hk : (ksO ci).getD k false = true) (hq : wR w r k = vR q) (kk : G Γ μ Ret kc ks (pc + 3) L (vR q :: st) w) : G Γ μ Ret kc ks pc L (vR r :: st) w :=
  G_get (v := vR q) hd hf hs (by unfold obE; rw [hk, if_pos rfl]; show cv Γ (wR w r k) = _; rw [hq]) kk
/-- the world's list behind a store into place r -/
theorem wsW_set (Γ : Gm) {w w' : Wd} {r : Nat} {x : Sh} (h : sh w r = some x) (hn : w'.1 = w.1) (h1 : ∀ a, a ≠ r → w'.2.1 a = w.2.1 a ∧ w'.2.2 a = w.2.2 a) : (wsW Γ w).set r (Γ.2.2.2.1 + r, cellE Γ x (w'.2.1 r) (w'.2.2 r)) = wsW Γ w' := by
  have hx : r < w.1 ∧ shp[r]? = some x := by
    unfold sh at h
    split at h
    · rename_i q; exact ⟨q, h⟩
    · cases h
  apply List.ext_getElem?
  intro j
  by_cases e : j = r
  · subst e
    have h2 : sh w' j = some x := by unfold sh; rw [hn, if_pos hx.1]; exact hx.2
    rw [wsW_at Γ h2, List.getElem?_set_self (by rw [wsW_len]; exact hx.1)]
  · rw [List.getElem?_set_ne (fun q => e q.symm)]
    simp only [wsW, List.getElem?_map, hn]
    cases hj : (List.range w.1)[j]? with
    | none => rfl
    | some i =>
      obtain ⟨h2, h3⟩ := List.getElem?_eq_some_iff.mp hj
      simp at h3
      subst h3
      simp only [Option.map_some, wsE]
      rw [(h1 j e).1, (h1 j e).2]
theorem obE_set (Γ : Gm) (ks : List Bool) (f f' : Int → Int) (g g' : Int → Value) (k : Nat) (v : Value) (h1 : obE Γ ks f' g' k = v) (h2 : ∀ j : Nat, j ≠ k → f' j = f j ∧ g' j = g j) : ((List.range ks.length).map (obE Γ ks f g)).set k v = (List.range ks.length).map (obE Γ ks f' g') := by
  apply List.ext_getElem?
  intro j
  by_cases e : j = k
  · subst e
    by_cases hj : j < ks.length
    · rw [List.getElem?_set_self (by simpa using hj), obE_at Γ _ _ hj, h1]
    · rw [List.getElem?_eq_none (by simp; omega), List.getElem?_eq_none (by simp; omega)]
  · rw [List.getElem?_set_ne (fun q => e q.symm)]
    simp only [List.getElem?_map]
    cases hj : (List.range ks.length)[j]? with
    | none => rfl
    | some i =>
      obtain ⟨hh, h3⟩ := List.getElem?_eq_some_iff.mp hj
      simp at h3
      subst h3
      simp only [Option.map_some, obE]
      rw [(h2 j e).1, (h2 j e).2]
theorem G_put {idx r ci k : Nat} {fin : Bool} {desc : String} {v : Value} {ty : FieldType} {w' : Wd} (hd : decode μ.2.1 pc = .ok (.putfield idx, 3)) (hf : FL μ.1.cls idx ci k fin desc) (hs : sh w r = some (.inr ci)) (hfin : fin = true → μ.1.name = "<init>" ∧ ∃ T N, clsL[ci]? = some (μ.1.cls, T, N))
    (hty : parseFieldDescriptor desc = some ty) (hn : narrow ty (cv Γ v) = cv Γ v) (hfit : fits ty (cv Γ v) = true) (hw1 : w'.1 = w.1) (hw2 : ∀ a, a ≠ r → w'.2.1 a = w.2.1 a ∧ w'.2.2 a = w.2.2 a) (hw3 : ∀ j : Nat, j ≠ k → w'.2.1 r j = w.2.1 r j ∧ w'.2.2 r j = w.2.2 r j) (hw4 : obE Γ (ksO ci) (w'.2.1 r) (w'.2.2 r) k = cv Γ v)
    (kk : G Γ μ Ret kc ks (pc + 3) L st w') : G Γ μ Ret kc ks pc L (v :: vR r :: st) w := by
  intro p e R s m args below meth c H locs Q ls C r0 P S o
  obtain ⟨Cn, T, N, ty0, hc, hkN, hW, hT1, hT2, hT3, hlen, hl⟩ := hf
  have hK := C.2.2.2.2.2.2.2.1.1
  have hat := wsW_at Γ hs
  have hts := C.2.2.2.2.1
  show W _ _ _ _ _ _ _ _ _ _ _ _ _ _ _ (F0 m pc ls (cv Γ v :: cv Γ (vR r) :: st.map (cv Γ)))
  rw [cv_R Γ hs]
  have hset : (wsW Γ w).set r (Γ.2.2.2.1 + r, .inr (ci, ((List.range (ksO ci).length).map (obE Γ (ksO ci) (w.2.1 r) (w.2.2 r))).set k (cv Γ v))) = wsW Γ w' := by
    rw [obE_set Γ (ksO ci) _ (w'.2.1 r) _ (w'.2.2 r) k (cv Γ v) hw4 hw3]
    exact wsW_set Γ hs hw1 hw2
  have hl1 : k < ((List.range (ksO ci).length).map (obE Γ (ksO ci) (w.2.1 r) (w.2.2 r))).length := by simp; rw [hlen]; exact hkN
  have fin3 : ∀ (H1 : Heap) (locs1 : List Loc), va_P Γ.2.1 clsL ((wsW Γ w).set r (Γ.2.2.2.1 + r, .inr (ci, ((List.range (ksO ci).length).map (obE Γ (ksO ci) (w.2.1 r) (w.2.2 r))).set k (cv Γ v)))) H1 → va_S (Ab Γ) s.heap H1 locs1 → W p Γ.1 e R s m args below meth c H1 locs1 kc ks Q (F0 m (pc + 3) ls (st.map (cv Γ))) := by
    intro H1 locs1 a1 a3
    rw [hset] at a1
    exact kk p e R s m args below meth c H1 locs1 Q ls C r0 a1 ⟨a3, by rw [hw1]; exact S.2⟩ o
  have hty' : parseFieldDescriptor (T k).2.2.1 = some ty := by rw [hT2]; exact hty
  have hsame : ∀ x, s.fieldFound? (T k).1 (T k).2.1 (T k).2.2.1 = some x → s.fieldFound? Cn (T k).2.1 (T k).2.2.1 = some x := fun x h9 => by rw [hT1] at h9; exact h9
  cases hfb : fin with
  | false =>
    rw [hfb] at hT3
    rcases hl with hl | ⟨-, host, hl⟩
    · exact va_put (C := Cn) (T := T) (N := N) (ref := Cn) C.1 C.2.1 hts hW.1 ty0 hW.2.1 hW.2.2 C.2.2.2.1 hK P (wsW_D Γ w) S.1 r hat hc k hkN (hts _ hl) hsame hT3 hty' hn hfit hl1 hd (fun H1 locs1 a1 _ a3 => fin3 H1 locs1 a1 a3)
    · exact va_putN (C := Cn) (T := T) (N := N) (ref := Cn) (host := host) C.1 C.2.1 hts hW.1 ty0 hW.2.1 hW.2.2 C.2.2.2.1 hK P (wsW_D Γ w) S.1 r hat hc k hkN (hts _ hl) hsame hT3 hty' hn hfit hl1 hd (fun H1 locs1 a1 _ a3 => fin3 H1 locs1 a1 a3)
  | true =>
    rw [hfb] at hT3
    obtain ⟨hin, T', N', hc'⟩ := hfin hfb
    rcases hl with hl | ⟨hh, host, hl⟩
    · exact va_putF (C := Cn) (T := T) (N := N) (ref := Cn) C.1 C.2.1 hts hW.1 ty0 hW.2.1 hW.2.2 C.2.2.2.1 hK P (wsW_D Γ w) S.1 r hat hc k hkN (hts _ hl) hsame hT3 (C.2.2.2.2.2.2.1.trans hin) (by rw [hT1]; rw [hc] at hc'; cases hc'; rfl) hty' hn hfit hl1 hd (fun H1 locs1 a1 _ a3 => fin3 H1 locs1 a1 a3)
    · rcases hh with hh | hh
      · rw [hfb] at hh; cases hh
      · exact absurd (by rw [hc] at hc'; cases hc'; rfl) hh
/-- an int field -/
theorem G_putI {idx r ci k : Nat} {z : Int} (hd : decode μ.2.1 pc = .ok (.putfield idx, 3)) (hf : FL μ.1.cls idx ci k false "I") (hs : sh w r = some (.inr ci)) (hk : (ksO ci).getD k false = false) (kk : G Γ μ Ret kc ks (pc + 3) L st (stI w r k z)) : G Γ μ Ret kc ks pc L (vI z :: vR r :: st) w :=
  G_put (w' := stI w r k z) (ty := .int) hd hf hs (fun h => by cases h) (by decide +kernel) rfl rfl rfl (fun a ha => ⟨by funext i; show (if a = r ∧ _ then _ else _) = _; rw [if_neg (fun q => ha q.1)], rfl⟩) (fun j hj => ⟨by show (if r = r ∧ ((j : Int) = (k : Int)) then _ else _) = _; rw [if_neg (fun q => hj (by omega))], rfl⟩) (by unfold obE; rw [hk]; show vI (if r = r ∧ (k : Int) = (k : Int) then z else _) = _; rw [if_pos ⟨rfl, rfl⟩]; rfl) kk
/-- a boolean field -/
theorem G_putZ {idx r ci k : Nat} {z : Int} (hd : decode μ.2.1 pc = .ok (.putfield idx, 3)) (hf : FL μ.1.cls idx ci k false "Z") (hs : sh w r = some (.inr ci)) (hk : (ksO ci).getD k false = false) (hz : z = 0 ∨ z = 1) (kk : G Γ μ Ret kc ks (pc + 3) L st (stI w r k z)) : G Γ μ Ret kc ks pc L (vI z :: vR r :: st) w :=
  G_put (w' := stI w r k z) (ty := .boolean) hd hf hs (fun h => by cases h) (by decide +kernel) (by rcases hz with rfl | rfl; exact (by decide +kernel : narrow .boolean (vI 0) = vI 0); exact (by decide +kernel : narrow .boolean (vI 1) = vI 1)) (by rcases hz with rfl | rfl; exact (by decide +kernel : fits .boolean (vI 0) = true); exact (by decide +kernel : fits .boolean (vI 1) = true)) rfl (fun a ha => ⟨by funext i; show (if a = r ∧ _ then _ else _) = _; rw [if_neg (fun q => ha q.1)], rfl⟩) (fun j hj => ⟨by show (if r = r ∧ ((j : Int) = (k : Int)) then _ else _) = _; rw [if_neg (fun q => hj (by omega))], rfl⟩) (by unfold obE; rw [hk]; show vI (if r = r ∧ (k : Int) = (k : Int) then z else _) = _; rw [if_pos ⟨rfl, rfl⟩]; rfl) kk
/-- a reference's field -/
theorem G_putR {idx r ci k q : Nat} {fin : Bool} {desc : String} {ty : FieldType} (hd : decode μ.2.1 pc = .ok (.putfield idx, 3)) (hf : FL μ.1.cls idx ci k fin desc) (hs : sh w r = some (.inr ci)) (hk : (ksO ci).getD k false = true) (hfin : fin = true → μ.1.name = "<init>" ∧ ∃ T N, clsL[ci]? = some (μ.1.cls, T, N))
    (hty : parseFieldDescriptor desc = some ty) (hn : ∀ a, narrow ty (.ref a) = .ref a) (hfit : ∀ a, fits ty (.ref a) = true) (kk : G Γ μ Ret kc ks (pc + 3) L st (stR w r k (vR q))) : G Γ μ Ret kc ks pc L (vR q :: vR r :: st) w :=
  G_put (w' := stR w r k (vR q)) hd hf hs hfin hty (hn _) (hfit _) rfl (fun a ha => ⟨rfl, by funext i; show (if a = r ∧ _ then _ else _) = _; rw [if_neg (fun q => ha q.1)]⟩) (fun j hj => ⟨rfl, by show (if r = r ∧ ((j : Int) = (k : Int)) then _ else _) = _; rw [if_neg (fun q => hj (by omega))]⟩) (by unfold obE; rw [hk, if_pos rfl]; show cv Γ (if r = r ∧ (k : Int) = (k : Int) then vR q else _) = _; rw [if_pos ⟨rfl, rfl⟩]) kk
-- arrays
theorem tn_in {z : Int} {n : Nat} (h : 0 ≤ z ∧ z < (n : Int)) (hn : n < 2147483648) : (iI z).toNatClampNeg = z.toNat ∧ ((z.toNat : Nat) : Int) = z := ⟨iI_nat ⟨by omega, by omega⟩, by omega⟩
theorem G_iald {r n : Nat} {z : Int} (hd : decode μ.2.1 pc = .ok (.iaload, 1)) (hs : sh w r = some (.inl (0, n))) (hz : 0 ≤ z ∧ z < (n : Int)) (hn : n < 2147483648) (kk : G Γ μ Ret kc ks (pc + 1) L (vI (wI w r z) :: st) w) : G Γ μ Ret kc ks pc L (vI z :: vR r :: st) w := by
  intro p e R s m args below meth c H locs Q ls C r0 P S o
  have h := kk p e R s m args below meth c H locs Q ls C r0 P S o
  show W _ _ _ _ _ _ _ _ _ _ _ _ _ _ _ (F0 m pc ls (.int (iI z) :: cv Γ (vR r) :: st.map (cv Γ)))
  rw [cv_R Γ hs]
  refine va_iald C.1 C.2.1 C.2.2.2.2.2.2.2.1.1 P r 0 (wsW_at Γ hs) rfl (iI_in hz hn) hd ?_
  rw [(tn_in hz hn).1, (tn_in hz hn).2]
  exact h
theorem G_cald {r n : Nat} {z : Int} (hd : decode μ.2.1 pc = .ok (.caload, 1)) (hs : sh w r = some (.inl (1, n))) (hz : 0 ≤ z ∧ z < (n : Int)) (hn : n < 2147483648) (kk : G Γ μ Ret kc ks (pc + 1) L (vI (wI w r z) :: st) w) : G Γ μ Ret kc ks pc L (vI z :: vR r :: st) w := by
  intro p e R s m args below meth c H locs Q ls C r0 P S o
  have h := kk p e R s m args below meth c H locs Q ls C r0 P S o
  show W _ _ _ _ _ _ _ _ _ _ _ _ _ _ _ (F0 m pc ls (.int (iI z) :: cv Γ (vR r) :: st.map (cv Γ)))
  rw [cv_R Γ hs]
  refine va_cald C.1 C.2.1 C.2.2.2.2.2.2.2.1.1 P r 1 (wsW_at Γ hs) rfl (iI_in hz hn) hd ?_
  rw [(tn_in hz hn).1, (tn_in hz hn).2]
  exact h
theorem G_alen {r t n : Nat} (hd : decode μ.2.1 pc = .ok (.arraylength, 1)) (hs : sh w r = some (.inl (t, n))) (ht : t < 3) (kk : G Γ μ Ret kc ks (pc + 1) L (vI (n : Int) :: st) w) : G Γ μ Ret kc ks pc L (vR r :: st) w := by
  intro p e R s m args below meth c H locs Q ls C r0 P S o
  have h := kk p e R s m args below meth c H locs Q ls C r0 P S o
  show W _ _ _ _ _ _ _ _ _ _ _ _ _ _ _ (F0 m pc ls (cv Γ (vR r) :: st.map (cv Γ)))
  rw [cv_R Γ hs]
  match t, ht with
  | 0, _ => exact va_alen C.1 C.2.1 C.2.2.2.2.2.2.2.1.1 P r 0 (wsW_at Γ hs) rfl (v := iI n) Int32.ofInt_eq_ofNat.symm hd h
  | 1, _ => exact va_alen C.1 C.2.1 C.2.2.2.2.2.2.2.1.1 P r 1 (wsW_at Γ hs) rfl (v := iI n) Int32.ofInt_eq_ofNat.symm hd h
  | 2, _ => exact va_alen C.1 C.2.1 C.2.2.2.2.2.2.2.1.1 P r 2 (wsW_at Γ hs) rfl (v := iI n) Int32.ofInt_eq_ofNat.symm hd h
theorem G_iast {r n : Nat} {z v : Int} (hd : decode μ.2.1 pc = .ok (.iastore, 1)) (hs : sh w r = some (.inl (0, n))) (hz : 0 ≤ z ∧ z < (n : Int)) (hn : n < 2147483648) (kk : G Γ μ Ret kc ks (pc + 1) L st (stI w r z v)) : G Γ μ Ret kc ks pc L (vI v :: vI z :: vR r :: st) w := by
  intro p e R s m args below meth c H locs Q ls C r0 P S o
  show W _ _ _ _ _ _ _ _ _ _ _ _ _ _ _ (F0 m pc ls (.int (iI v) :: .int (iI z) :: cv Γ (vR r) :: st.map (cv Γ)))
  rw [cv_R Γ hs]
  refine va_iast C.1 C.2.1 C.2.2.2.2.2.2.2.1.1 P (wsW_D Γ w) S.1 r 0 (wsW_at Γ hs) rfl (iI_in hz hn) hd (fun H1 locs1 a1 _ a3 => ?_)
  refine kk p e R s m args below meth c H1 locs1 Q ls C r0 ?_ ⟨a3, S.2⟩ o
  have e1 : cellE Γ (.inl (0, n)) ((stI w r z v).2.1 r) ((stI w r z v).2.2 r) = .inl (Γ.2.2.1 0, n, .inl (upd (fun k => iI (w.2.1 r k)) (iI z).toNatClampNeg (iI v))) := by
    have e0 : (fun k : Nat => iI ((stI w r z v).2.1 r k)) = upd (fun k => iI (w.2.1 r k)) (iI z).toNatClampNeg (iI v) := by
     funext k
     by_cases hk : k = (iI z).toNatClampNeg
     · subst hk
       rw [pk_us, (tn_in hz hn).1, (tn_in hz hn).2]
       show iI (if r = r ∧ z = z then v else _) = _
       rw [if_pos ⟨rfl, rfl⟩]
     · rw [pk_un hk]
       show iI (if r = r ∧ (k : Int) = z then v else _) = _
       rw [if_neg]
       rintro ⟨-, q⟩
       apply hk
       rw [(tn_in hz hn).1]
       omega
    rw [← e0]
    rfl
  rw [← e1, wsW_set (w' := stI w r z v) Γ hs rfl (fun a ha => ⟨by funext i; show (if a = r ∧ _ then _ else _) = _; rw [if_neg (fun q => ha q.1)], rfl⟩)] at a1
  exact a1
theorem iI_nar {z : Int} (h : 0 ≤ z ∧ z < 65536) : vp_nar .char (iI z) = iI z := by
  rw [vp_nar_char]
  obtain ⟨n, rfl⟩ : ∃ n : Nat, z = n := ⟨z.toNat, by omega⟩
  have hn : n < 65536 := by omega
  apply Int32.toBitVec_inj.mp
  simp only [iI, UInt32.toBitVec_toInt32, UInt16.toBitVec_toUInt32, UInt32.toBitVec_toUInt16, Int32.toBitVec_toUInt32, Int32.toBitVec_ofInt]
  apply BitVec.eq_of_toNat_eq
  simp only [BitVec.toNat_setWidth, BitVec.toNat_ofInt]
  have e1 : ((2 ^ 32 : Nat) : Int) = 4294967296 := by decide
  have e2 : (2 : Nat) ^ 16 = 65536 := by decide
  have e3 : (2 : Nat) ^ 32 = 4294967296 := by decide
  rw [e1, e2, e3]
  omega
theorem G_cast {r n : Nat} {z v : Int} (hd : decode μ.2.1 pc = .ok (.castore, 1)) (hs : sh w r = some (.inl (1, n))) (hz : 0 ≤ z ∧ z < (n : Int)) (hn : n < 2147483648) (hv : 0 ≤ v ∧ v < 65536) (kk : G Γ μ Ret kc ks (pc + 1) L st (stI w r z v)) : G Γ μ Ret kc ks pc L (vI v :: vI z :: vR r :: st) w := by
  intro p e R s m args below meth c H locs Q ls C r0 P S o
  show W _ _ _ _ _ _ _ _ _ _ _ _ _ _ _ (F0 m pc ls (.int (iI v) :: .int (iI z) :: cv Γ (vR r) :: st.map (cv Γ)))
  rw [cv_R Γ hs]
  refine va_cast C.1 C.2.1 C.2.2.2.2.2.2.2.1.1 P (wsW_D Γ w) S.1 r 1 (wsW_at Γ hs) rfl (iI_in hz hn) hd (fun H1 locs1 a1 _ a3 => ?_)
  refine kk p e R s m args below meth c H1 locs1 Q ls C r0 ?_ ⟨a3, S.2⟩ o
  have e1 : cellE Γ (.inl (1, n)) ((stI w r z v).2.1 r) ((stI w r z v).2.2 r) = .inl (Γ.2.2.1 1, n, .inl (upd (fun k => iI (w.2.1 r k)) (iI z).toNatClampNeg (vp_nar .char (iI v)))) := by
    rw [iI_nar hv]
    have e0 : (fun k : Nat => iI ((stI w r z v).2.1 r k)) = upd (fun k => iI (w.2.1 r k)) (iI z).toNatClampNeg (iI v) := by
     funext k
     by_cases hk : k = (iI z).toNatClampNeg
     · subst hk
       rw [pk_us, (tn_in hz hn).1, (tn_in hz hn).2]
       show iI (if r = r ∧ z = z then v else _) = _
       rw [if_pos ⟨rfl, rfl⟩]
     · rw [pk_un hk]
       show iI (if r = r ∧ (k : Int) = z then v else _) = _
       rw [if_neg]
       rintro ⟨-, q⟩
       apply hk
       rw [(tn_in hz hn).1]
       omega
    rw [← e0]
    rfl
  rw [← e1, wsW_set (w' := stI w r z v) Γ hs rfl (fun a ha => ⟨by funext i; show (if a = r ∧ _ then _ else _) = _; rw [if_neg (fun q => ha q.1)], rfl⟩)] at a1
  exact a1
theorem G_aald {r n q : Nat} {z : Int} (hd : decode μ.2.1 pc = .ok (.aaload, 1)) (hs : sh w r = some (.inl (2, n))) (hz : 0 ≤ z ∧ z < (n : Int)) (hn : n < 2147483648) (hq : wR w r z = vR q) (kk : G Γ μ Ret kc ks (pc + 1) L (vR q :: st) w) : G Γ μ Ret kc ks pc L (vI z :: vR r :: st) w := by
  intro p e R s m args below meth c H locs Q ls C r0 P S o
  have h := kk p e R s m args below meth c H locs Q ls C r0 P S o
  show W _ _ _ _ _ _ _ _ _ _ _ _ _ _ _ (F0 m pc ls (.int (iI z) :: cv Γ (vR r) :: st.map (cv Γ)))
  rw [cv_R Γ hs]
  refine va_aldq C.1 C.2.1 C.2.2.2.2.2.2.2.1.1 P r 2 (wsW_at Γ hs) rfl (iI_in hz hn) hd ?_
  rw [(tn_in hz hn).1, (tn_in hz hn).2]
  show W _ _ _ _ _ _ _ _ _ _ _ _ _ _ _ (F0 m (pc + 1) ls (va_rf (cvO Γ (wR w r z)) :: st.map (cv Γ)))
  rw [hq]
  exact h
theorem G_aast {r n q : Nat} {z : Int} (hd : decode μ.2.1 pc = .ok (.aastore, 1)) (hs : sh w r = some (.inl (2, n))) (hz : 0 ≤ z ∧ z < (n : Int)) (hn : n < 2147483648) (hq : sh w q = some (.inr 0)) (kk : G Γ μ Ret kc ks (pc + 1) L st (stR w r z (vR q))) : G Γ μ Ret kc ks pc L (vR q :: vI z :: vR r :: st) w := by
  intro p e R s m args below meth c H locs Q ls C r0 P S o
  show W _ _ _ _ _ _ _ _ _ _ _ _ _ _ _ (F0 m pc ls (cv Γ (vR q) :: .int (iI z) :: cv Γ (vR r) :: st.map (cv Γ)))
  rw [cv_R Γ hs, cv_R Γ hq]
  refine va_astq C.1 C.2.1 C.2.2.2.2.2.2.2.1.1 P (wsW_D Γ w) S.1 r 2 q 0 (wsW_at Γ hs) rfl (wsW_at Γ hq) rfl (iI_in hz hn) hd (fun H1 locs1 a1 _ a3 => ?_)
  refine kk p e R s m args below meth c H1 locs1 Q ls C r0 ?_ ⟨a3, S.2⟩ o
  have e1 : cellE Γ (.inl (2, n)) ((stR w r z (vR q)).2.1 r) ((stR w r z (vR q)).2.2 r) = .inl (Γ.2.2.1 2, n, .inr (.inr (.inr (.inr (va_up (fun k => cvO Γ (w.2.2 r k)) (iI z).toNatClampNeg (some (Γ.2.2.2.1 + q))))))) := by
    have e0 : (fun k : Nat => cvO Γ ((stR w r z (vR q)).2.2 r k)) = va_up (fun k => cvO Γ (w.2.2 r k)) (iI z).toNatClampNeg (some (Γ.2.2.2.1 + q)) := by
     funext k
     unfold va_up
     by_cases hk : k = (iI z).toNatClampNeg
     · rw [if_pos hk]
       show cvO Γ (if r = r ∧ (k : Int) = z then vR q else _) = _
       rw [if_pos ⟨rfl, by rw [hk, (tn_in hz hn).1, (tn_in hz hn).2]⟩]
       have := cv_R Γ hq
       show some (ad Γ q) = _
       have e2 : Value.ref (ad Γ q) = .ref (Γ.2.2.2.1 + q) := this
       injection e2 with e2
       rw [e2]
     · rw [if_neg hk]
       show cvO Γ (if r = r ∧ (k : Int) = z then vR q else _) = _
       rw [if_neg]
       rintro ⟨-, q⟩
       apply hk
       rw [(tn_in hz hn).1]
       omega
    rw [← e0]
    rfl
  rw [← e1, wsW_set (w' := stR w r z (vR q)) Γ hs rfl (fun a ha => ⟨rfl, by funext i; show (if a = r ∧ _ then _ else _) = _; rw [if_neg (fun q => ha q.1)]⟩)] at a1
  exact a1
-- the script
theorem G_sld {z : Int} (hμ : μ.1.cls = RL) (hd : decode μ.2.1 pc = .ok (.iaload, 1)) (hz : 0 ≤ z ∧ z < (Γ.2.2.2.2.2.1 : Int)) (hn : Γ.2.2.2.2.2.1 < 2147483648) (kk : G Γ μ Ret kc ks (pc + 1) L (vI (Γ.2.2.2.2.2.2 z.toNat).toInt :: st) w) : G Γ μ Ret kc ks pc L (vI z :: vR 999 :: st) w := by
  intro p e R s m args below meth c H locs Q ls C r0 P S o
  have h := kk p e R s m args below meth c H locs Q ls C r0 P S o
  obtain ⟨hX, hbl, hbA⟩ := C.2.2.2.2.2.2.2.2 hμ
  refine va_sld C.1 C.2.1 hX hbl hbA S.1 (iI_in hz hn) hd ?_
  rw [(tn_in hz hn).1]
  have e1 : vI (Γ.2.2.2.2.2.2 z.toNat).toInt = .int (Γ.2.2.2.2.2.2 z.toNat) := by unfold vI; rw [iI_of]
  rw [e1] at h
  exact h
theorem G_slen (hμ : μ.1.cls = RL) (hd : decode μ.2.1 pc = .ok (.arraylength, 1)) (kk : G Γ μ Ret kc ks (pc + 1) L (vI (Γ.2.2.2.2.2.1 : Int) :: st) w) : G Γ μ Ret kc ks pc L (vR 999 :: st) w := by
  intro p e R s m args below meth c H locs Q ls C r0 P S o
  have h := kk p e R s m args below meth c H locs Q ls C r0 P S o
  obtain ⟨hX, hbl, hbA⟩ := C.2.2.2.2.2.2.2.2 hμ
  refine va_slen C.1 C.2.1 hX hbl hbA S.1 hd ?_
  rw [← Int32.ofInt_eq_ofNat]
  exact h
end
end
section
section
variable {Γ : Gm} {μ : Mu} {Ret : Option Value → Wd → Prop} {kc ks pc : Nat} {L : List (Option Value)} {st : List Value} {w : Wd}
-- making
def nwW (w : Wd) : Wd := (w.1 + 1, (fun a i => if a = w.1 then 0 else w.2.1 a i), fun a i => if a = w.1 then .null else w.2.2 a i)
theorem wsW_new (Γ : Gm) {w : Wd} {x : Sh} (h : shp[w.1]? = some x) : wsW Γ w ++ [(Γ.2.2.2.1 + w.1, cellE Γ x (fun _ => 0) (fun _ => .null))] = wsW Γ (nwW w) := by
  have e1 : wsW Γ (nwW w) = (List.range w.1).map (wsE Γ (nwW w)) ++ [wsE Γ (nwW w) w.1] := by
    show (List.range (w.1 + 1)).map _ = _
    rw [List.range_succ, List.map_append]
    rfl
  rw [e1]
  congr 1
  · apply List.map_congr_left
    intro a ha
    have hl : a < w.1 := List.mem_range.mp ha
    have hne : a ≠ w.1 := by omega
    unfold wsE
    have f1 : (nwW w).2.1 a = w.2.1 a := by funext i; show (if a = w.1 then _ else _) = _; rw [if_neg hne]
    have f2 : (nwW w).2.2 a = w.2.2 a := by funext i; show (if a = w.1 then _ else _) = _; rw [if_neg hne]
    rw [f1, f2]
  · unfold wsE
    have f1 : (nwW w).2.1 w.1 = fun _ => 0 := by funext i; show (if w.1 = w.1 then _ else _) = _; rw [if_pos rfl]
    have f2 : (nwW w).2.2 w.1 = fun _ => .null := by funext i; show (if w.1 = w.1 then _ else _) = _; rw [if_pos rfl]
    rw [f1, f2, List.getD_eq_getElem?_getD, h]
    rfl
/-- how large a heap can be that stands behind a start -/
theorem stand_size {p : Program} {l : Launch} {e : Env} {R : Room} {s : State} {m : MethodId} {args : Array Value} {below : List Frame} {meth : Method} {c : Code} {T : State} {locs : List Loc} {cells slots : Nat} (X : Stand p l e R s m args below meth c T locs cells slots) : T.heap.size ≤ s.heap.size + cells := X.same.2.2.1
/-- the heap's size, by what was made -/
theorem size_of {p : Program} {l : Launch} {e : Env} {R : Room} {s : State} {m : MethodId} {args : Array Value} {below : List Frame} {meth : Method} {c : Code} {T : State} {locs : List Loc} {cells slots : Nat} {H : Heap} {locs' : List Loc} (X : Stand p l e R s m args below meth c T locs cells slots) (hT : T.heap = H) (P : PH Γ w H) (S : SS Γ cells w.1 s H locs') : H.size = Γ.2.2.2.1 + w.1 := by
  have h1 := stand_size X
  rw [hT] at h1
  have h2 := S.2.1
  have h3 := S.1.1
  have h7 := S.2.2
  by_cases h0 : w.1 = 0
  · omega
  · have hk : (wsW Γ w)[w.1 - 1]? = some (wsE Γ w (w.1 - 1)) := by
      simp [wsW, List.getElem?_map, List.getElem?_range (show w.1 - 1 < w.1 by omega)]
    have h4 := (P _ _ hk).lt
    have h5 : (wsE Γ w (w.1 - 1)).1 = Γ.2.2.2.1 + (w.1 - 1) := rfl
    rw [h5] at h4
    omega
/-- the place of a new cell -/
theorem new_at {p : Program} {l : Launch} {e : Env} {R : Room} {s : State} {m : MethodId} {args : Array Value} {below : List Frame} {meth : Method} {c : Code} {T : State} {locs : List Loc} {cells slots q : Nat} {H : Heap} {x : va_E} (X : Stand p l e R s m args below meth c T locs (cells + 1) slots) (hT : T.heap = H) (P : va_P Γ.2.1 clsL (wsW Γ w ++ [(q, x)]) H) (D : va_D (Ab Γ) (wsW Γ w ++ [(q, x)])) (S : s.heap.size + cells = Γ.2.2.2.1 + w.1) : q = Γ.2.2.2.1 + w.1 := by
  have h1 := stand_size X
  rw [hT] at h1
  have hk : (wsW Γ w ++ [(q, x)])[w.1]? = some (q, x) := by
    rw [List.getElem?_append_right (by rw [wsW_len]; exact Nat.le_refl _), wsW_len]
    simp
  have h2 : q < H.size := (P _ _ hk).lt
  have h3 : Γ.2.2.2.1 ≤ q := D.2 _ _ hk
  by_cases h4 : q < Γ.2.2.2.1 + w.1
  · have hr : (wsW Γ w ++ [(q, x)])[q - Γ.2.2.2.1]? = some (wsE Γ w (q - Γ.2.2.2.1)) := by
      rw [List.getElem?_append_left (by rw [wsW_len]; omega)]
      simp [wsW, List.getElem?_map, List.getElem?_range (show q - Γ.2.2.2.1 < w.1 by omega)]
    have h5 := D.1 _ _ _ _ hr hk (by show Γ.2.2.2.1 + (q - Γ.2.2.2.1) = q; omega)
    omega
  · omega
def CN (C : String) (N ci : Nat) (T : u_T) (ty0 : Nat → FieldType) : Prop := clsL[ci]? = some (C, T, N) ∧ CW C T N ty0 ∧ (ksO ci).length = N ∧ Cond.instantiable C N ∈ TB ∧ Cond.initialized C ∈ TB ∧ ∀ j, j < N → defaultValue (ty0 j) = if (ksO ci).getD j false then .null else vI 0
theorem G_new {idx ci N : Nat} {C : String} {T : u_T} {ty0 : Nat → FieldType} (hd : decode μ.2.1 pc = .ok (.new idx, 3)) (hC : CN C N ci T ty0) (hl : Cond.classLink μ.1.cls idx C ∈ TB) (hs : shp[w.1]? = some (.inr ci)) (hr : kc + 1 ≤ μ.2.2.2.2.cells ∧ ks + N ≤ μ.2.2.2.2.slots) (kk : G Γ μ Ret (kc + 1) (ks + N) (pc + 3) L (vR w.1 :: st) (nwW w)) : G Γ μ Ret kc ks pc L st w := by
  intro p e R s m args below meth c H locs Q ls Cx0 r0 P S o
  obtain ⟨hc, hW, hlen, hi, hini, hdf⟩ := hC
  have hts := Cx0.2.2.2.2.1
  have hsz0 : ∀ (u : Nat), (if (ksO ci).getD u false = true then cv Γ Value.null else vI 0) = (if (ksO ci).getD u false = true then .null else vI 0) := fun u => rfl
  refine va_new (C := C) (T := T) (N := N) (ci := ci) (fs := (List.range (ksO ci).length).map (obE Γ (ksO ci) (fun _ => 0) (fun _ => .null))) Cx0.1 Cx0.2.1 hts hW.1 ty0 hW.2.1 Cx0.2.2.2.1 (hts _ hl) (hts _ hi) (hts _ hini) Cx0.2.2.2.2.2.2.2.1.1 P (wsW_D Γ w) S.1 (fun q hq => ?_) hc (fun j hj => ?_) (by rw [Cx0.2.2.2.2.2.1]; exact hr.1) (by rw [Cx0.2.2.2.2.2.1]; exact hr.2) hd (fun q H1 a1 a2 a3 => ?_)
  · show Γ.2.2.2.1 ≤ q
    have := S.2.2
    omega
  · rw [hdf j hj]
    unfold vp_V
    rw [List.getD_eq_getElem?_getD (l := List.map _ _), obE_at Γ _ _ (by rw [hlen]; exact hj)]
    rfl
  · intro T0 hT X
    have hq := new_at X hT a1 a2 S.2.1
    subst hq
    rw [show (Γ.2.2.2.1 + w.1, (Sum.inr (ci, (List.range (ksO ci).length).map (obE Γ (ksO ci) (fun _ => 0) (fun _ => .null))) : va_E)) = (Γ.2.2.2.1 + w.1, cellE Γ (.inr ci) (fun _ => 0) (fun _ => .null)) from rfl, wsW_new Γ hs] at a1
    have h := kk p e R s m args below meth c H1 locs Q ls Cx0 r0 a1 ⟨a3, by have := S.2.1; show s.heap.size + (kc + 1) = Γ.2.2.2.1 + (w.1 + 1); omega, S.2.2⟩ o T0 hT X
    have hlt : w.1 < 999 := by
      have := (List.getElem?_eq_some_iff.mp hs).1
      have e9 : shp.length = 78 := by decide +kernel
      omega
    have e2 : (vR w.1 :: st).map (cv Γ) = .ref (Γ.2.2.2.1 + w.1) :: st.map (cv Γ) := by
      show cv Γ (vR w.1) :: _ = _
      rw [show cv Γ (vR w.1) = Value.ref (ad Γ w.1) from rfl, ad, if_neg (by omega)]
    rw [e2] at h
    exact h
theorem RA_same {s : State} {c1 c2 : ClassId} {ty : FieldType} (h1 : va_RA s c1 ty) (h2 : va_RA s c2 ty) : c1 = c2 := by
  cases ty with
  | object C =>
    obtain ⟨-, -, -, -, -, a⟩ := h1
    obtain ⟨-, -, -, -, -, b⟩ := h2
    exact Option.some.inj (a.symm.trans b)
  | _ => exact Option.some.inj ((show s.vm.findClass _ = some c1 from h1).symm.trans (show s.vm.findClass _ = some c2 from h2))
theorem K_last {D : va_G} {cl : List vw_C} {tys : List (ClassId × FieldType)} {c : ClassId} {ty : FieldType} {s : State} (h : va_K D cl (tys ++ [(c, ty)]) s) : va_RA s c ty :=
  (h.2 tys.length (c, ty) (by simp)).2
theorem G_newarr {t n : Nat} {at0 : ArrayType} {ty : FieldType} (hd : decode μ.2.1 pc = .ok (.newarray at0, 2)) (ht : (t = 0 ∧ ty = .int) ∨ (t = 1 ∧ ty = .char)) (hty : newarray.typeOf at0 = ty) (harr : Cond.arrayClass ty ∈ TB) (hs : shp[w.1]? = some (.inl (t, n))) (hn : n < 100000) (hr : kc + 1 ≤ μ.2.2.2.2.cells ∧ ks + n ≤ μ.2.2.2.2.slots) (kk : G Γ μ Ret (kc + 1) (ks + n) (pc + 2) L (vR w.1 :: st) (nwW w)) : G Γ μ Ret kc ks pc L (vI (n : Int) :: st) w := by
  intro p e R s m args below meth c H locs Q ls Cx0 r0 P S o
  have hts := Cx0.2.2.2.2.1
  have hK := Cx0.2.2.2.2.2.2.2.1.1
  have hz : (iI (n : Int)).toNatClampNeg = n := by rw [iI_nat ⟨by omega, by omega⟩]; omega
  have hK0 : va_RA s (Γ.2.2.1 t) ty := by
    rcases ht with ⟨rfl, rfl⟩ | ⟨rfl, rfl⟩
    · exact (hK.2 0 _ rfl).2
    · exact (hK.2 1 _ rfl).2
  have hcb : n * componentBytes ty ≤ 536870912 := by
    rcases ht with ⟨rfl, rfl⟩ | ⟨rfl, rfl⟩
    · show n * 4 ≤ _; omega
    · show n * 2 ≤ _; omega
  refine va_newa (ty := ty) (a0 := (n, .inl (fun _ => iI 0))) (N' := n) Cx0.1 Cx0.2.1 (by rw [hty]; exact hts _ harr) hty hK P (wsW_D Γ w) S.1 (fun q hq => ?_) (fun cA => ?_) (fun q => ?_) hz hcb (by rw [Cx0.2.2.2.2.2.1]; exact hr.1) (by rw [Cx0.2.2.2.2.2.1]; exact hr.2) hd (fun q cA H1 aK a1 a2 a3 => ?_)
  · show Γ.2.2.2.1 ≤ q
    have := S.2.2
    omega
  · rw [vp_cell_i]
    rcases ht with ⟨rfl, rfl⟩ | ⟨rfl, rfl⟩
    · show arrV cA n (fun _ => .int (iI 0)) = arrV cA n (fun _ => .int 0)
      rw [iI_0]
    · show arrV cA n (fun _ => .int (iI 0)) = arrV cA n (fun _ => .int 0)
      rw [iI_0]
  · have h0 : iI (n : Int) < iI 0 := by rw [iI_0]; exact q
    rw [iI_lt ⟨by omega, by omega⟩ ⟨by omega, by omega⟩] at h0
    omega
  · intro T0 hT X
    have hq := new_at X hT a1 a2 S.2.1
    subst hq
    have hcA : cA = Γ.2.2.1 t := RA_same (K_last aK) hK0
    subst hcA
    have e0 : cellE Γ (.inl (t, n)) (fun _ => 0) (fun _ => .null) = .inl (Γ.2.2.1 t, n, .inl (fun _ => iI 0)) := by
      rcases ht with ⟨rfl, rfl⟩ | ⟨rfl, rfl⟩ <;> rfl
    rw [← e0, wsW_new Γ hs] at a1
    have h := kk p e R s m args below meth c H1 locs Q ls Cx0 r0 a1 ⟨a3, by have := S.2.1; show s.heap.size + (kc + 1) = Γ.2.2.2.1 + (w.1 + 1); omega, S.2.2⟩ o T0 hT X
    have hlt : w.1 < 999 := by
      have := (List.getElem?_eq_some_iff.mp hs).1
      have e9 : shp.length = 78 := by decide +kernel
      omega
    have e2 : (vR w.1 :: st).map (cv Γ) = .ref (Γ.2.2.2.1 + w.1) :: st.map (cv Γ) := by
      show cv Γ (vR w.1) :: _ = _
      rw [show cv Γ (vR w.1) = Value.ref (ad Γ w.1) from rfl, ad, if_neg (by omega)]
    rw [e2] at h
    exact h
theorem G_newobj {n idx : Nat} (hd : decode μ.2.1 pc = .ok (.anewarray idx, 3)) (hl : Cond.classLink μ.1.cls idx RX0 ∈ TB) (hs : shp[w.1]? = some (.inl (2, n))) (hn : n < 100000) (hr : kc + 1 ≤ μ.2.2.2.2.cells ∧ ks + n ≤ μ.2.2.2.2.slots) (kk : G Γ μ Ret (kc + 1) (ks + n) (pc + 3) L (vR w.1 :: st) (nwW w)) : G Γ μ Ret kc ks pc L (vI (n : Int) :: st) w := by
  intro p e R s m args below meth c H locs Q ls Cx0 r0 P S o
  have hts := Cx0.2.2.2.2.1
  have hK := Cx0.2.2.2.2.2.2.2.1.1
  have hz : (iI (n : Int)).toNatClampNeg = n := by rw [iI_nat ⟨by omega, by omega⟩]; omega
  refine va_newq (C := RX0) (N' := n) Cx0.1 Cx0.2.1 Cx0.2.2.2.1 (hts _ hl) Cx0.2.2.2.2.2.2.2.1.2 hK P (wsW_D Γ w) S.1 (fun q hq => ?_) (fun q => ?_) hz (by omega) (by rw [Cx0.2.2.2.2.2.1]; exact hr.1) (by rw [Cx0.2.2.2.2.2.1]; exact hr.2) hd (fun q cA H1 aK a1 a2 a3 => ?_)
  · show Γ.2.2.2.1 ≤ q
    have := S.2.2
    omega
  · have h0 : iI (n : Int) < iI 0 := by rw [iI_0]; exact q
    rw [iI_lt ⟨by omega, by omega⟩ ⟨by omega, by omega⟩] at h0
    omega
  · intro T0 hT X
    have hq := new_at X hT a1 a2 S.2.1
    subst hq
    have hcA : cA = Γ.2.2.1 2 := RA_same (K_last aK) (hK.2 2 _ rfl).2
    subst hcA
    have e0 : cellE Γ (.inl (2, n)) (fun _ => 0) (fun _ => .null) = .inl (Γ.2.2.1 2, n, .inr (.inr (.inr (.inr (fun _ => none))))) := rfl
    rw [← e0, wsW_new Γ hs] at a1
    have h := kk p e R s m args below meth c H1 locs Q ls Cx0 r0 a1 ⟨a3, by have := S.2.1; show s.heap.size + (kc + 1) = Γ.2.2.2.1 + (w.1 + 1); omega, S.2.2⟩ o T0 hT X
    have hlt : w.1 < 999 := by
      have := (List.getElem?_eq_some_iff.mp hs).1
      have e9 : shp.length = 78 := by decide +kernel
      omega
    have e2 : (vR w.1 :: st).map (cv Γ) = .ref (Γ.2.2.2.1 + w.1) :: st.map (cv Γ) := by
      show cv Γ (vR w.1) :: _ = _
      rw [show cv Γ (vR w.1) = Value.ref (ad Γ w.1) from rfl, ad, if_neg (by omega)]
    rw [e2] at h
    exact h
theorem cat_sum (Γ : Gm) (st : List Value) : ((st.map (cv Γ)).map fun v => v.category).sum = (st.map fun v => v.category).sum := by
  rw [List.map_map]
  congr 1
  apply List.map_congr_left
  intro v _
  exact cv_cat Γ v
theorem G_obj {idx r : Nat} (hd : decode μ.2.1 pc = .ok (.invokespecial idx, 3)) (h1 : Cond.methodLink μ.1.cls idx objectInit ∈ TB) (h2 : Cond.instanceMethod objectInit ∈ TB) (h3 : Cond.code objectInit ⟨#[0xb1]⟩ 1 none ∈ TB) (hs : ∃ x, sh w r = some x) (hr : 1 ≤ μ.2.2.2.2.frames ∧ (st.map fun v => v.category).sum + 12 ≤ μ.2.2.2.2.locals) (kk : G Γ μ Ret kc ks (pc + 3) L st w) : G Γ μ Ret kc ks pc L (vR r :: st) w := by
  intro p e R s m args below meth c H locs Q ls C r0 P S o
  have h := kk p e R s m args below meth c H locs Q ls C r0 P S o
  have hts := C.2.2.2.2.1
  obtain ⟨x, hx⟩ := hs
  show W _ _ _ _ _ _ _ _ _ _ _ _ _ _ _ (F0 m pc ls (cv Γ (vR r) :: st.map (cv Γ)))
  rw [cv_R Γ hx]
  refine W.objInit C.1 C.2.1 C.2.2.2.1 (hts _ h1) (hts _ h2) (hts _ h3) rfl (by rw [C.2.2.1]; exact o.2.1) rfl hd (by rw [C.2.2.2.2.2.1]; exact hr.1) (by rw [C.2.2.2.2.2.1, cat_sum]; have := hr.2; show 0 + _ + 12 ≤ _; omega) ?_
  exact h
-- calls
/-- a contract's end -/
def SpQ (Γ : Gm) (μ : Mu) (w : Wd) (Q : Option Value → Wd → Prop) : Array Value → State → Outcome → State → Prop := fun _ st oc t => (∃ (v : Option Value) (w' : Wd), oc = .returned (v.map (cv Γ)) ∧ Q v w' ∧ PH Γ w' t.heap ∧ w'.1 = w.1 + μ.2.2.2.2.cells) ∧ va_F (Ab Γ) st t
/-- a method's contract: at these arguments and this world -/
def Sp (Γ : Gm) (μ : Mu) (as : List Value) (w : Wd) (Q : Option Value → Wd → Prop) : Prop :=
  Met Γ.1 μ.1 (wsM μ) μ.2.2.2.2 (va_Pc (as.map (cv Γ)) (fun U => PU Γ w U ∧ U.heap.size = Γ.2.2.2.1 + w.1)) (SpQ Γ μ w Q) μ.2.2.2.2.cells μ.2.2.2.2.slots (Ab Γ)
theorem args_LO (Γ : Gm) : ∀ (as : List Value) (i : Nat), (∀ v ∈ as, v.category = 1) → ∀ (k : Nat) (v : Value), as[k]? = some v → (i + k, cv Γ v) ∈ lv_args i (as.map (cv Γ)) := by
  intro as
  induction as with
  | nil => intro i _ k v h; simp at h
  | cons a as ih =>
    intro i hc k v h
    have ha : (cv Γ a).category = 1 := by rw [cv_cat]; exact hc a List.mem_cons_self
    show (i + k, cv Γ v) ∈ (i, cv Γ a) :: lv_args (if (cv Γ a).category = 2 then i + 2 else i + 1) (as.map (cv Γ))
    rw [if_neg (by rw [ha]; decide)]
    cases k with
    | zero =>
      simp only [List.getElem?_cons_zero, Option.some.injEq] at h
      subst h
      exact List.mem_cons_self
    | succ k =>
      refine List.mem_cons_of_mem _ ?_
      have := ih (i + 1) (fun v hv => hc v (List.mem_cons_of_mem _ hv)) k v (by simpa using h)
      rw [show i + (k + 1) = i + 1 + k by omega]
      exact this
theorem sl_len (Γ : Gm) : ∀ (as : List Value), (∀ v ∈ as, v.category = 1) → (lg_sl (as.map (cv Γ))).length = as.length := by
  intro as
  induction as with
  | nil => intro _; rfl
  | cons a as ih =>
    intro hc
    have ha : (cv Γ a).category = 1 := by rw [cv_cat]; exact hc a List.mem_cons_self
    have := ih (fun v hv => hc v (List.mem_cons_of_mem _ hv))
    unfold lg_sl at this ⊢
    simp only [List.map_cons, List.flatMap_cons, List.length_append, List.length_cons]
    rw [if_neg (by rw [ha]; decide), this]
    simp
    omega
theorem Sp_intro {as : List Value} {Q : Option Value → Wd → Prop} (hy : plainName μ.1.cls = true) (hcl : μ.1.cls ≠ RL) (hm : as.length ≤ μ.2.2.1) (hc : ∀ v ∈ as, v.category = 1) (k : G Γ μ Q 0 0 0 (as.map some ++ List.replicate (μ.2.2.1 - as.length) none) [] w) : Sp Γ μ as w Q := by
  refine Met.ofW (cc := μ.2.1) (maxL := μ.2.2.1) (ret := μ.2.2.2.1) hy rfl ?_
  intro p e s m args below meth c s₁ B hml hv
  obtain ⟨rfl, hU, hsz⟩ := hv
  have hown : s.vm.findClass μ.1.cls = some m.cls := findClass_of_methodNamed B.named
  have hts : ∀ w ∈ TB, w.before (as.map (cv Γ)).toArray s = true := fun w hw => atoms_spec (ws := wsM μ) B.pre w (List.mem_cons_of_mem _ hw)
  have hl := lv_entry (as.map (cv Γ)) (n := μ.2.2.1) (by rw [sl_len Γ as hc]; exact hm)
  rw [lg_entry_eq]
  generalize (lg_sl (as.map (cv Γ)) ++ List.replicate (μ.2.2.1 - (lg_sl (as.map (cv Γ))).length) Slot.unset).toArray = ls at hl ⊢
  refine k p e μ.2.2.2.2 s m _ below meth c s.heap [] _ ls ⟨B.exec, B.bytes, hml, hown, hts, rfl, (name_of_methodNamed B.named B.method).1, hU.2, fun h => absurd h hcl⟩ ?_ hU.1 ⟨va_S.rf, by rw [hsz]; omega, by rw [hsz]; omega⟩ ⟨by simp; omega, hl.1, hl.2.1, fun i v hi => ?_⟩
  · intro v w' H locs kc ks pc ls' hQ hf hkc hks P S hd
    have hlocks := B.notSynchronized
    have hw' : w'.1 = w.1 + μ.2.2.2.2.cells := by have h1 := S.2.1; rw [hsz, hkc] at h1; omega
    subst hkc
    refine W.widen (k := μ.2.2.2.2.cells) (n := μ.2.2.2.2.slots) (Nat.le_refl _) hks ?_
    have fin (t : State) (ht : t.heap = H) : (∃ (v' : Option Value) (w'' : Wd), Outcome.returned (v.map (cv Γ)) = .returned (v'.map (cv Γ)) ∧ Q v' w'' ∧ PH Γ w'' t.heap ∧ w''.1 = w.1 + μ.2.2.2.2.cells) ∧ va_F (Ab Γ) s t := ⟨⟨v, w', rfl, hQ, by rw [ht]; exact P, hw'⟩, S.1.F ht⟩
    cases v with
    | none =>
      cases hrt : μ.2.2.2.1 with
      | none => exact W.vret B.exec B.bytes (B.returns.trans hrt) (fun t ht _ => fin t ht) S.1.2.2 hd
      | some ty => rw [hrt] at hf; cases ty <;> exact hf.elim
    | some v =>
      cases v with
      | int x =>
        cases hrt : μ.2.2.2.1 with
        | none => rw [hrt] at hf; exact hf.elim
        | some ty =>
          rw [hrt] at hf
          cases ty with
          | int => exact W.iret B.exec B.bytes (B.returns.trans hrt) (fun t ht _ => fin t ht) S.1.2.2 hd
          | boolean => exact W.zret B.exec B.bytes (B.returns.trans hrt) (by rcases hf with rfl | rfl <;> decide +kernel) (fun t ht _ => fin t ht) S.1.2.2 hd
          | _ => exact hf.elim
      | ref r =>
        cases hrt : μ.2.2.2.1 with
        | none => rw [hrt] at hf; exact hf.elim
        | some ty =>
          rw [hrt] at hf
          cases ty with
          | object C => exact W.aret (v := .ref (ad Γ r)) B.exec B.bytes (B.returns.trans hrt) (Or.inl ⟨_, rfl⟩) (Or.inr ⟨_, rfl⟩) (fun t ht _ => fin t ht) S.1.2.2 hd
          | array C => exact W.aret (v := .ref (ad Γ r)) B.exec B.bytes (B.returns.trans hrt) (Or.inr ⟨_, rfl⟩) (Or.inr ⟨_, rfl⟩) (fun t ht _ => fin t ht) S.1.2.2 hd
          | _ => exact hf.elim
      | null =>
        cases hrt : μ.2.2.2.1 with
        | none => rw [hrt] at hf; exact hf.elim
        | some ty =>
          rw [hrt] at hf
          cases ty with
          | object C => exact W.aret (v := .null) B.exec B.bytes (B.returns.trans hrt) (Or.inl ⟨_, rfl⟩) (Or.inl rfl) (fun t ht _ => fin t ht) S.1.2.2 hd
          | _ => exact hf.elim
      | _ => exact hd.elim
  · by_cases hi2 : i < as.length
    · have h1 : as[i]? = some v := by
        rw [List.getElem?_append_left (by simpa using hi2)] at hi
        simp only [List.getElem?_map, Option.map_eq_some_iff] at hi
        obtain ⟨a, ha, hb⟩ := hi
        cases hb
        exact ha
      have := args_LO Γ as 0 hc i v h1
      rw [Nat.zero_add] at this
      exact hl.2.2 (i, cv Γ v) this
    · rw [List.getElem?_append_right (by simpa using Nat.le_of_not_lt hi2)] at hi
      have := List.mem_of_getElem? hi
      have := List.eq_of_mem_replicate this
      cases this
/-- behind a call -/
theorem call_on {y : Mu} {p : Program} {e : Env} {R : Room} {s : State} {m : MethodId} {args : Array Value} {below : List Frame} {meth : Method} {c : Code} {H : Heap} {locs : List Loc} {Q : State → Prop} {ls : Array Slot} {st0 : List Value} {w : Wd} {Qv : Option Value → Wd → Prop} {a : Array Value} {rest : List Value}
    (hr : va_Run p Γ.1 e R s m args below meth c H locs kc ks y.2.2.2.2.cells y.2.2.2.2.slots (F0 m pc ls st0) rest (SpQ Γ y w Qv a) (Ab Γ)) (S : SS Γ kc w.1 s H locs)
    (kk : ∀ (v : Option Value) (w' : Wd) (H1 : Heap) (locs1 : List Loc), Qv v w' → PH Γ w' H1 → SS Γ (kc + y.2.2.2.2.cells) w'.1 s H1 locs1 → W p Γ.1 e R s m args below meth c H1 locs1 (kc + y.2.2.2.2.cells) (ks + y.2.2.2.2.slots) Q (F0 m (pc + 3) ls ((v.map (cv Γ)).toList ++ rest))) : W p Γ.1 e R s m args below meth c H locs kc ks Q (F0 m pc ls st0) := by
  intro T hT X
  obtain ⟨v, st₀, t, T', Lc, h0, X', hL, e1, e2, ⟨⟨v', w', hv, hq, hP, hn⟩, hz, hk⟩, stp⟩ := hr T hT X
  cases hv
  rw [h0] at hz hk
  obtain ⟨t2, a1, b1⟩ := kk v' w' T'.heap (locs ++ Lc) hq (by rw [e1]; exact hP) ⟨⟨Nat.le_trans S.1.1 (by rw [e1]; exact hz), fun q h1 h2 => by rw [e1, hk q (Nat.lt_of_lt_of_le h1 S.1.1) h2]; exact S.1.2.1 q h1 h2, fun q hq => by
    rcases List.mem_append.mp hq with h | h
    · exact S.1.2.2 q h
    · exact hL q h⟩, by have := S.2.1; omega, S.2.2⟩ T' rfl X'
  exact ⟨t2, stp t2 a1, b1⟩
theorem blind (as : List Value) : FrameBlind (va_Pc (as.map (cv Γ)) (fun U => PU Γ w U ∧ U.heap.size = Γ.2.2.2.1 + w.1)) := fun a U g mk q => by
  obtain ⟨h1, ⟨h2, h3⟩, h4⟩ := q
  exact ⟨h1, ⟨h2, PK.moved (u := U) (U := U.calling g mk a) (Vm.Alike.refl U.vm) h3⟩, h4⟩
/-- what the tables say of a method -/
def MC (y : Mu) (n : Nat) : Prop := Cond.code y.1 y.2.1 y.2.2.1 y.2.2.2.1 ∈ TB ∧ Cond.initialized y.1.cls ∈ TB ∧ (y.1.cls ≠ "java/lang/invoke/MethodHandle" ∧ y.1.cls ≠ "java/lang/invoke/VarHandle" ∧ (parseMethodDescriptor y.1.desc).map (fun d => d.parameters.length) = some n)
def MV (y : Mu) (n : Nat) : Prop := MC y n ∧ Cond.instanceMethod y.1 ∈ TB ∧ Cond.selects y.1.cls y.1 y.1 ∈ TB
def MS (y : Mu) (n : Nat) : Prop := MC y n ∧ Cond.static y.1 ∈ TB
def MI (y : Mu) (n : Nat) : Prop := MC y n ∧ Cond.instanceMethod y.1 ∈ TB ∧ y.1.name = "<init>" ∧ y.2.2.2.1 = none
def ML (own : String) (idx : Nat) (y : Mu) : Prop := Cond.methodLink own idx y.1 ∈ TB ∨ ∃ host, Cond.methodLinkNest own idx y.1 host ∈ TB
/-- the callee's room fits -/
def RF (μ y : Mu) (kc ks : Nat) (st : List Value) : Prop := (y.2.2.2.2.frames + 1 ≤ μ.2.2.2.2.frames ∧ 8 + (y.2.2.1 + 11) + y.2.2.2.2.locals ≤ μ.2.2.2.2.locals) ∧ (kc + y.2.2.2.2.cells ≤ μ.2.2.2.2.cells ∧ ks + y.2.2.2.2.slots ≤ μ.2.2.2.2.slots) ∧ (st.map fun v => v.category).sum ≤ 8
theorem G_callS {idx n : Nat} {y : Mu} {as : List Value} {Q : Option Value → Wd → Prop} (hd : decode μ.2.1 pc = .ok (.invokestatic idx, 3)) (hl : ML μ.1.cls idx y) (hm : MS y n) (hn : as.length = n) (hr : RF μ y kc ks st) (hS : Sp Γ y as w Q) (k : ∀ v w', Q v w' → G Γ μ Ret (kc + y.2.2.2.2.cells) (ks + y.2.2.2.2.slots) (pc + 3) L (v.toList ++ st) w') : G Γ μ Ret kc ks pc L (as.reverse ++ st) w := by
  intro p e R s m args below meth c H locs Q0 ls C r0 P S o T hT X
  have hsz := size_of X hT P S
  have hts := C.2.2.2.2.1
  have hp : PreS s H (va_Pc (as.map (cv Γ)) (fun U => PU Γ w U ∧ U.heap.size = Γ.2.2.2.1 + w.1)) (as.map (cv Γ)) := ⟨blind as, fun U hU hW => ⟨rfl, ⟨by rw [hU]; exact P, PK.moved hW.alike C.2.2.2.2.2.2.2.1⟩, by rw [hU]; exact hsz⟩⟩
  have hst : (as.reverse ++ st).map (cv Γ) = (as.map (cv Γ)).reverse ++ st.map (cv Γ) := by simp
  have hcat := lv_room (m := m) (pc := pc) (ls := ls) (rest := (as.reverse ++ st).map (cv Γ)) (st := st.map (cv Γ)) (by rw [cat_sum]; exact hr.2.2)
  have hrun : va_Run p Γ.1 e R s m args below meth c H locs kc ks y.2.2.2.2.cells y.2.2.2.2.slots (F0 m pc ls ((as.reverse ++ st).map (cv Γ))) (st.map (cv Γ)) (SpQ Γ y w Q (as.map (cv Γ)).toArray) (Ab Γ) := by
    obtain ⟨⟨m1, m2, m3⟩, m4⟩ := hm
    rcases hl with hl | ⟨host, hl⟩
    · exact va_runS (As := as.map (cv Γ)) ⟨C.1, C.2.1, C.2.2.1, C.2.2.2.1, hts⟩ hS ⟨callB_of n hts (tb_goodM m1) rfl rfl rfl (hts _ m2) (hts _ hl) m3 (by rw [C.2.2.2.2.2.1]; exact hr.1), hts _ m4⟩ hp rfl (by simpa using hn) o.2.1 hst hcat hd (by rw [C.2.2.2.2.2.1]; exact hr.2.1)
    · exact va_runSN (As := as.map (cv Γ)) (host := host) ⟨C.1, C.2.1, C.2.2.1, C.2.2.2.1, hts⟩ hS ⟨va_cnB n hts (tb_goodM m1) rfl rfl rfl (tb_nw (hts _ hl) rfl) (hts _ m2) m3 (by rw [C.2.2.2.2.2.1]; exact hr.1), hts _ m4, trivial⟩ hp rfl (by simpa using hn) o.2.1 hst hcat hd (by rw [C.2.2.2.2.2.1]; exact hr.2.1)
  refine call_on hrun S (fun v w' H1 locs1 hq hP hS1 => ?_) T hT X
  have h := k v w' hq p e R s m args below meth c H1 locs1 Q0 ls C r0 hP hS1 o
  have e1 : (v.toList ++ st).map (cv Γ) = (v.map (cv Γ)).toList ++ st.map (cv Γ) := by cases v <;> simp
  rw [e1] at h
  exact h
theorem G_callV {idx n r ci : Nat} {y : Mu} {as : List Value} {Q : Option Value → Wd → Prop} (hd : decode μ.2.1 pc = .ok (.invokevirtual idx, 3)) (hl : ML μ.1.cls idx y) (hm : MV y n) (hn : as.length = n) (hr : RF μ y kc ks st) (hs : sh w r = some (.inr ci)) (hci : ∃ T N, clsL[ci]? = some (y.1.cls, T, N)) (hS : Sp Γ y (vR r :: as) w Q) (k : ∀ v w', Q v w' → G Γ μ Ret (kc + y.2.2.2.2.cells) (ks + y.2.2.2.2.slots) (pc + 3) L (v.toList ++ st) w') : G Γ μ Ret kc ks pc L (as.reverse ++ vR r :: st) w := by
  intro p e R s m args below meth c H locs Q0 ls C r0 P S o T hT X
  have hsz := size_of X hT P S
  have hts := C.2.2.2.2.1
  obtain ⟨Tc, Nc, hci⟩ := hci
  have hrc : ∃ cell : Cell, H[Γ.2.2.2.1 + r]? = some cell ∧ cell.vm.isStatics = false ∧ s.vm.findClass y.1.cls = some cell.cls := va_recv C.2.2.2.2.2.2.2.1.1 P hci (wsW_at Γ hs)
  have hp : PreV s H y.1.cls (Γ.2.2.2.1 + r) (va_Pc ((vR r :: as).map (cv Γ)) (fun U => PU Γ w U ∧ U.heap.size = Γ.2.2.2.1 + w.1)) (as.map (cv Γ)) := ⟨blind (vR r :: as), hrc, fun U hU hW => ⟨by rw [List.map_cons, cv_R Γ hs], ⟨by rw [hU]; exact P, PK.moved hW.alike C.2.2.2.2.2.2.2.1⟩, by rw [hU]; exact hsz⟩⟩
  have hst : (as.reverse ++ vR r :: st).map (cv Γ) = (as.map (cv Γ)).reverse ++ .ref (Γ.2.2.2.1 + r) :: st.map (cv Γ) := by simp [cv_R Γ hs]
  have hcat := lv_room (m := m) (pc := pc) (ls := ls) (rest := (as.reverse ++ vR r :: st).map (cv Γ)) (st := st.map (cv Γ)) (by rw [cat_sum]; exact hr.2.2)
  have hrun : va_Run p Γ.1 e R s m args below meth c H locs kc ks y.2.2.2.2.cells y.2.2.2.2.slots (F0 m pc ls ((as.reverse ++ vR r :: st).map (cv Γ))) (st.map (cv Γ)) (SpQ Γ y w Q (Value.ref (Γ.2.2.2.1 + r) :: as.map (cv Γ)).toArray) (Ab Γ) := by
    obtain ⟨⟨m1, m2, m3⟩, m4, m5⟩ := hm
    rcases hl with hl | ⟨host, hl⟩
    · exact va_runV (As := as.map (cv Γ)) ⟨C.1, C.2.1, C.2.2.1, C.2.2.2.1, hts⟩ hS ⟨callB_of n hts (tb_goodM m1) rfl rfl rfl (hts _ m2) (hts _ hl) m3 (by rw [C.2.2.2.2.2.1]; exact hr.1), hts _ m4, hts _ m5⟩ hp rfl (by simpa using hn) o.2.1 hst hcat hd (by rw [C.2.2.2.2.2.1]; exact hr.2.1)
    · exact va_runVN (As := as.map (cv Γ)) (host := host) ⟨C.1, C.2.1, C.2.2.1, C.2.2.2.1, hts⟩ hS ⟨va_cnB n hts (tb_goodM m1) rfl rfl rfl (tb_nw (hts _ hl) rfl) (hts _ m2) m3 (by rw [C.2.2.2.2.2.1]; exact hr.1), hts _ m4, hts _ m5⟩ hp rfl (by simpa using hn) o.2.1 hst hcat hd (by rw [C.2.2.2.2.2.1]; exact hr.2.1)
  refine call_on hrun S (fun v w' H1 locs1 hq hP hS1 => ?_) T hT X
  have h := k v w' hq p e R s m args below meth c H1 locs1 Q0 ls C r0 hP hS1 o
  have e1 : (v.toList ++ st).map (cv Γ) = (v.map (cv Γ)).toList ++ st.map (cv Γ) := by cases v <;> simp
  rw [e1] at h
  exact h
theorem G_callI {idx n r ci : Nat} {y : Mu} {as : List Value} {Q : Option Value → Wd → Prop} (hd : decode μ.2.1 pc = .ok (.invokespecial idx, 3)) (hl : ML μ.1.cls idx y) (hm : MI y n) (hn : as.length = n) (hr : RF μ y kc ks st) (hs : sh w r = some (.inr ci)) (hS : Sp Γ y (vR r :: as) w Q) (k : ∀ v w', Q v w' → G Γ μ Ret (kc + y.2.2.2.2.cells) (ks + y.2.2.2.2.slots) (pc + 3) L (v.toList ++ st) w') : G Γ μ Ret kc ks pc L (as.reverse ++ vR r :: st) w := by
  intro p e R s m args below meth c H locs Q0 ls C r0 P S o T hT X
  have hsz := size_of X hT P S
  have hts := C.2.2.2.2.1
  obtain ⟨yn, yb, yl, yr, yo⟩ := y
  obtain ⟨⟨m1, m2, m3⟩, m4, m5, m6⟩ := hm
  have m6 : yr = none := m6
  subst m6
  have hp : PreS s H (va_Pc ((vR r :: as).map (cv Γ)) (fun U => PU Γ w U ∧ U.heap.size = Γ.2.2.2.1 + w.1)) (.ref (Γ.2.2.2.1 + r) :: as.map (cv Γ)) := ⟨blind (vR r :: as), fun U hU hW => ⟨by rw [List.map_cons, cv_R Γ hs], ⟨by rw [hU]; exact P, PK.moved hW.alike C.2.2.2.2.2.2.2.1⟩, by rw [hU]; exact hsz⟩⟩
  have hst : (as.reverse ++ vR r :: st).map (cv Γ) = (as.map (cv Γ)).reverse ++ .ref (Γ.2.2.2.1 + r) :: st.map (cv Γ) := by simp [cv_R Γ hs]
  have hcat := lv_room (m := m) (pc := pc) (ls := ls) (rest := (as.reverse ++ vR r :: st).map (cv Γ)) (st := st.map (cv Γ)) (by rw [cat_sum]; exact hr.2.2)
  have hrun : va_Run p Γ.1 e R s m args below meth c H locs kc ks yo.cells yo.slots (F0 m pc ls ((as.reverse ++ vR r :: st).map (cv Γ))) (st.map (cv Γ)) (SpQ Γ (yn, yb, yl, none, yo) w Q (Value.ref (Γ.2.2.2.1 + r) :: as.map (cv Γ)).toArray) (Ab Γ) := by
    rcases hl with hl | ⟨host, hl⟩
    · exact va_runI (As := as.map (cv Γ)) ⟨C.1, C.2.1, C.2.2.1, C.2.2.2.1, hts⟩ hS ⟨callB_of n hts (tb_goodM (μ := (yn, yb, yl, none, yo)) m1) rfl rfl rfl (hts _ m2) (hts _ hl) m3 (by rw [C.2.2.2.2.2.1]; exact hr.1), m5, hts _ m4⟩ hp rfl (by simpa using hn) o.2.1 hst hcat hd (by rw [C.2.2.2.2.2.1]; exact hr.2.1)
    · exact va_runIN (As := as.map (cv Γ)) (host := host) ⟨C.1, C.2.1, C.2.2.1, C.2.2.2.1, hts⟩ hS ⟨va_cnB n hts (tb_goodM (μ := (yn, yb, yl, none, yo)) m1) rfl rfl rfl (tb_nw (hts _ hl) rfl) (hts _ m2) m3 (by rw [C.2.2.2.2.2.1]; exact hr.1), m5, hts _ m4⟩ hp rfl (by simpa using hn) o.2.1 hst hcat hd (by rw [C.2.2.2.2.2.1]; exact hr.2.1)
  refine call_on (y := (yn, yb, yl, none, yo)) hrun S (fun v w' H1 locs1 hq hP hS1 => ?_) T hT X
  have h := k v w' hq p e R s m args below meth c H1 locs1 Q0 ls C r0 hP hS1 o
  have e1 : (v.toList ++ st).map (cv Γ) = (v.map (cv Γ)).toList ++ st.map (cv Γ) := by cases v <;> simp
  rw [e1] at h
  exact h
end
end
