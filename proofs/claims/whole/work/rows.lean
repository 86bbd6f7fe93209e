section
-- ===== PART A: goes FIRST, ahead of the names: the tables' words, and 'selects' of the private methods out of them =====
/-- a private method of a class that the tables say can be made, by its rows of tables_1 -/
def lw_okq (q : MethodName × Nat) : Prop := (q.1.cls ≠ "java/lang/invoke/MethodHandle" ∧ q.1.cls ≠ "java/lang/invoke/VarHandle") ∧ Cond.instantiable q.1.cls q.2 ∈ tables_1 ∧ Cond.privateMethod q.1 ∈ tables_1 ∧ Cond.instanceMethod q.1 ∈ tables_1
theorem lw_p0 : lw_okq (⟨"StretchedCarpet$Room", "clear", "()V"⟩, 13) := ⟨⟨by decide +kernel, by decide +kernel⟩, List.mem_of_getElem? (i := 24) (by decide +kernel), List.mem_of_getElem? (i := 30) (by decide +kernel), List.mem_of_getElem? (i := 31) (by decide +kernel)⟩
theorem lw_p1 : lw_okq (⟨"StretchedCarpet$Room", "readNumbers", "([CII)I"⟩, 13) := ⟨⟨by decide +kernel, by decide +kernel⟩, List.mem_of_getElem? (i := 24) (by decide +kernel), List.mem_of_getElem? (i := 287) (by decide +kernel), List.mem_of_getElem? (i := 288) (by decide +kernel)⟩
theorem lw_p2 : lw_okq (⟨"StretchedCarpet$Room", "takeItem", "(I)Z"⟩, 13) := ⟨⟨by decide +kernel, by decide +kernel⟩, List.mem_of_getElem? (i := 24) (by decide +kernel), List.mem_of_getElem? (i := 310) (by decide +kernel), List.mem_of_getElem? (i := 311) (by decide +kernel)⟩
theorem lw_p3 : lw_okq (⟨"StretchedCarpet$Room", "takeStrip", "(III)Z"⟩, 13) := ⟨⟨by decide +kernel, by decide +kernel⟩, List.mem_of_getElem? (i := 24) (by decide +kernel), List.mem_of_getElem? (i := 317) (by decide +kernel), List.mem_of_getElem? (i := 318) (by decide +kernel)⟩
theorem lw_p4 : lw_okq (⟨"StretchedCarpet$Room", "takeDamp", "(I)Z"⟩, 13) := ⟨⟨by decide +kernel, by decide +kernel⟩, List.mem_of_getElem? (i := 24) (by decide +kernel), List.mem_of_getElem? (i := 321) (by decide +kernel), List.mem_of_getElem? (i := 322) (by decide +kernel)⟩
theorem lw_p5 : lw_okq (⟨"StretchedCarpet$Shelf", "rowAt", "(I)LStretchedCarpet$Carpet;"⟩, 3) := ⟨⟨by decide +kernel, by decide +kernel⟩, List.mem_of_getElem? (i := 134) (by decide +kernel), List.mem_of_getElem? (i := 459) (by decide +kernel), List.mem_of_getElem? (i := 460) (by decide +kernel)⟩
theorem lw_p6 : lw_okq (⟨"StretchedCarpet$CutPlan", "choose", "(LStretchedCarpet$Room;I)V"⟩, 8) := ⟨⟨by decide +kernel, by decide +kernel⟩, List.mem_of_getElem? (i := 178) (by decide +kernel), List.mem_of_getElem? (i := 546) (by decide +kernel), List.mem_of_getElem? (i := 547) (by decide +kernel)⟩
theorem lw_p7 : lw_okq (⟨"StretchedCarpet$CutPlan", "isLess", "(III)Z"⟩, 8) := ⟨⟨by decide +kernel, by decide +kernel⟩, List.mem_of_getElem? (i := 178) (by decide +kernel), List.mem_of_getElem? (i := 555) (by decide +kernel), List.mem_of_getElem? (i := 556) (by decide +kernel)⟩
theorem lw_p8 : lw_okq (⟨"StretchedCarpet$HookOrder", "isOrder", "(LStretchedCarpet$Carpet;I)Z"⟩, 3) := ⟨⟨by decide +kernel, by decide +kernel⟩, List.mem_of_getElem? (i := 212) (by decide +kernel), List.mem_of_getElem? (i := 572) (by decide +kernel), List.mem_of_getElem? (i := 573) (by decide +kernel)⟩
theorem lw_p9 : lw_okq (⟨"StretchedCarpet$HookOrder", "wallIn", "(II)I"⟩, 3) := ⟨⟨by decide +kernel, by decide +kernel⟩, List.mem_of_getElem? (i := 212) (by decide +kernel), List.mem_of_getElem? (i := 576) (by decide +kernel), List.mem_of_getElem? (i := 577) (by decide +kernel)⟩
theorem lw_p10 : lw_okq (⟨"StretchedCarpet$HookOrder", "kicksOf", "(LStretchedCarpet$Room;LStretchedCarpet$Carpet;LStretchedCarpet$Carpet;I)I"⟩, 3) := ⟨⟨by decide +kernel, by decide +kernel⟩, List.mem_of_getElem? (i := 212) (by decide +kernel), List.mem_of_getElem? (i := 580) (by decide +kernel), List.mem_of_getElem? (i := 581) (by decide +kernel)⟩
theorem lw_p11 : lw_okq (⟨"StretchedCarpet$Sightings", "explainedBy", "(II)Z"⟩, 3) := ⟨⟨by decide +kernel, by decide +kernel⟩, List.mem_of_getElem? (i := 157) (by decide +kernel), List.mem_of_getElem? (i := 633) (by decide +kernel), List.mem_of_getElem? (i := 634) (by decide +kernel)⟩
theorem lw_p12 : lw_okq (⟨"StretchedCarpetModel", "addStrip", "(IIII)V"⟩, 27) := ⟨⟨by decide +kernel, by decide +kernel⟩, List.mem_of_getElem? (i := 715) (by decide +kernel), List.mem_of_getElem? (i := 721) (by decide +kernel), List.mem_of_getElem? (i := 722) (by decide +kernel)⟩
theorem lw_p13 : lw_okq (⟨"StretchedCarpetModel", "isItem", "()Z"⟩, 27) := ⟨⟨by decide +kernel, by decide +kernel⟩, List.mem_of_getElem? (i := 715) (by decide +kernel), List.mem_of_getElem? (i := 822) (by decide +kernel), List.mem_of_getElem? (i := 823) (by decide +kernel)⟩
theorem lw_p14 : lw_okq (⟨"StretchedCarpetModel", "letterAt", "(I)I"⟩, 27) := ⟨⟨by decide +kernel, by decide +kernel⟩, List.mem_of_getElem? (i := 715) (by decide +kernel), List.mem_of_getElem? (i := 826) (by decide +kernel), List.mem_of_getElem? (i := 827) (by decide +kernel)⟩
theorem lw_p15 : lw_okq (⟨"StretchedCarpetModel", "isStripItem", "()Z"⟩, 27) := ⟨⟨by decide +kernel, by decide +kernel⟩, List.mem_of_getElem? (i := 715) (by decide +kernel), List.mem_of_getElem? (i := 830) (by decide +kernel), List.mem_of_getElem? (i := 831) (by decide +kernel)⟩
def lw_privs_1 : List (MethodName × Nat) := [(⟨"StretchedCarpet$Room", "clear", "()V"⟩, 13), (⟨"StretchedCarpet$Room", "readNumbers", "([CII)I"⟩, 13), (⟨"StretchedCarpet$Room", "takeItem", "(I)Z"⟩, 13), (⟨"StretchedCarpet$Room", "takeStrip", "(III)Z"⟩, 13), (⟨"StretchedCarpet$Room", "takeDamp", "(I)Z"⟩, 13), (⟨"StretchedCarpet$Shelf", "rowAt", "(I)LStretchedCarpet$Carpet;"⟩, 3), (⟨"StretchedCarpet$CutPlan", "choose", "(LStretchedCarpet$Room;I)V"⟩, 8), (⟨"StretchedCarpet$CutPlan", "isLess", "(III)Z"⟩, 8), (⟨"StretchedCarpet$HookOrder", "isOrder", "(LStretchedCarpet$Carpet;I)Z"⟩, 3), (⟨"StretchedCarpet$HookOrder", "wallIn", "(II)I"⟩, 3), (⟨"StretchedCarpet$HookOrder", "kicksOf", "(LStretchedCarpet$Room;LStretchedCarpet$Carpet;LStretchedCarpet$Carpet;I)I"⟩, 3), (⟨"StretchedCarpet$Sightings", "explainedBy", "(II)Z"⟩, 3), (⟨"StretchedCarpetModel", "addStrip", "(IIII)V"⟩, 27), (⟨"StretchedCarpetModel", "isItem", "()Z"⟩, 27), (⟨"StretchedCarpetModel", "letterAt", "(I)I"⟩, 27), (⟨"StretchedCarpetModel", "isStripItem", "()Z"⟩, 27)]
theorem lw_r1 : ∀ q ∈ lw_privs_1, lw_okq q := List.forall_mem_cons.mpr ⟨lw_p0, List.forall_mem_cons.mpr ⟨lw_p1, List.forall_mem_cons.mpr ⟨lw_p2, List.forall_mem_cons.mpr ⟨lw_p3, List.forall_mem_cons.mpr ⟨lw_p4, List.forall_mem_cons.mpr ⟨lw_p5, List.forall_mem_cons.mpr ⟨lw_p6, List.forall_mem_cons.mpr ⟨lw_p7, List.forall_mem_cons.mpr ⟨lw_p8, List.forall_mem_cons.mpr ⟨lw_p9, List.forall_mem_cons.mpr ⟨lw_p10, List.forall_mem_cons.mpr ⟨lw_p11, List.forall_mem_cons.mpr ⟨lw_p12, List.forall_mem_cons.mpr ⟨lw_p13, List.forall_mem_cons.mpr ⟨lw_p14, List.forall_mem_cons.mpr ⟨lw_p15, fun _ h => absurd h List.not_mem_nil⟩⟩⟩⟩⟩⟩⟩⟩⟩⟩⟩⟩⟩⟩⟩⟩
theorem lw_p16 : lw_okq (⟨"StretchedCarpetModel", "isNumber", "(III)Z"⟩, 27) := ⟨⟨by decide +kernel, by decide +kernel⟩, List.mem_of_getElem? (i := 715) (by decide +kernel), List.mem_of_getElem? (i := 834) (by decide +kernel), List.mem_of_getElem? (i := 835) (by decide +kernel)⟩
theorem lw_p17 : lw_okq (⟨"StretchedCarpetModel", "isPair", "(IIIII)Z"⟩, 27) := ⟨⟨by decide +kernel, by decide +kernel⟩, List.mem_of_getElem? (i := 715) (by decide +kernel), List.mem_of_getElem? (i := 838) (by decide +kernel), List.mem_of_getElem? (i := 839) (by decide +kernel)⟩
theorem lw_p18 : lw_okq (⟨"StretchedCarpetModel", "isOne", "(III)Z"⟩, 27) := ⟨⟨by decide +kernel, by decide +kernel⟩, List.mem_of_getElem? (i := 715) (by decide +kernel), List.mem_of_getElem? (i := 842) (by decide +kernel), List.mem_of_getElem? (i := 843) (by decide +kernel)⟩
theorem lw_p19 : lw_okq (⟨"StretchedCarpetModel", "isDampItem", "()Z"⟩, 27) := ⟨⟨by decide +kernel, by decide +kernel⟩, List.mem_of_getElem? (i := 715) (by decide +kernel), List.mem_of_getElem? (i := 846) (by decide +kernel), List.mem_of_getElem? (i := 847) (by decide +kernel)⟩
theorem lw_p20 : lw_okq (⟨"StretchedCarpetModel", "lengthOf", "(I)I"⟩, 27) := ⟨⟨by decide +kernel, by decide +kernel⟩, List.mem_of_getElem? (i := 715) (by decide +kernel), List.mem_of_getElem? (i := 862) (by decide +kernel), List.mem_of_getElem? (i := 863) (by decide +kernel)⟩
theorem lw_p21 : lw_okq (⟨"StretchedCarpetModel", "dampBy", "(I)I"⟩, 27) := ⟨⟨by decide +kernel, by decide +kernel⟩, List.mem_of_getElem? (i := 715) (by decide +kernel), List.mem_of_getElem? (i := 880) (by decide +kernel), List.mem_of_getElem? (i := 881) (by decide +kernel)⟩
theorem lw_p22 : lw_okq (⟨"StretchedCarpetModel", "longFor", "(II)I"⟩, 27) := ⟨⟨by decide +kernel, by decide +kernel⟩, List.mem_of_getElem? (i := 715) (by decide +kernel), List.mem_of_getElem? (i := 891) (by decide +kernel), List.mem_of_getElem? (i := 892) (by decide +kernel)⟩
theorem lw_p23 : lw_okq (⟨"StretchedCarpetModel", "rollIn", "([I)I"⟩, 27) := ⟨⟨by decide +kernel, by decide +kernel⟩, List.mem_of_getElem? (i := 715) (by decide +kernel), List.mem_of_getElem? (i := 895) (by decide +kernel), List.mem_of_getElem? (i := 896) (by decide +kernel)⟩
theorem lw_p24 : lw_okq (⟨"StretchedCarpetModel", "note", "()V"⟩, 27) := ⟨⟨by decide +kernel, by decide +kernel⟩, List.mem_of_getElem? (i := 715) (by decide +kernel), List.mem_of_getElem? (i := 899) (by decide +kernel), List.mem_of_getElem? (i := 900) (by decide +kernel)⟩
theorem lw_p25 : lw_okq (⟨"StretchedCarpetModel", "isCovered", "()Z"⟩, 27) := ⟨⟨by decide +kernel, by decide +kernel⟩, List.mem_of_getElem? (i := 715) (by decide +kernel), List.mem_of_getElem? (i := 907) (by decide +kernel), List.mem_of_getElem? (i := 908) (by decide +kernel)⟩
theorem lw_p26 : lw_okq (⟨"StretchedCarpetModel", "kick", "([III)V"⟩, 27) := ⟨⟨by decide +kernel, by decide +kernel⟩, List.mem_of_getElem? (i := 715) (by decide +kernel), List.mem_of_getElem? (i := 914) (by decide +kernel), List.mem_of_getElem? (i := 915) (by decide +kernel)⟩
theorem lw_p27 : lw_okq (⟨"StretchedCarpetModel", "tightBy", "([III)I"⟩, 27) := ⟨⟨by decide +kernel, by decide +kernel⟩, List.mem_of_getElem? (i := 715) (by decide +kernel), List.mem_of_getElem? (i := 918) (by decide +kernel), List.mem_of_getElem? (i := 919) (by decide +kernel)⟩
theorem lw_p28 : lw_okq (⟨"StretchedCarpetModel", "passMonth", "([I)V"⟩, 27) := ⟨⟨by decide +kernel, by decide +kernel⟩, List.mem_of_getElem? (i := 715) (by decide +kernel), List.mem_of_getElem? (i := 939) (by decide +kernel), List.mem_of_getElem? (i := 940) (by decide +kernel)⟩
theorem lw_p29 : lw_okq (⟨"StretchedCarpetModel", "layPlan", "()V"⟩, 27) := ⟨⟨by decide +kernel, by decide +kernel⟩, List.mem_of_getElem? (i := 715) (by decide +kernel), List.mem_of_getElem? (i := 951) (by decide +kernel), List.mem_of_getElem? (i := 952) (by decide +kernel)⟩
theorem lw_p30 : lw_okq (⟨"StretchedCarpetModel", "covers", "(II)Z"⟩, 27) := ⟨⟨by decide +kernel, by decide +kernel⟩, List.mem_of_getElem? (i := 715) (by decide +kernel), List.mem_of_getElem? (i := 955) (by decide +kernel), List.mem_of_getElem? (i := 956) (by decide +kernel)⟩
theorem lw_p31 : lw_okq (⟨"StretchedCarpetModel", "seamAt", "(I)I"⟩, 27) := ⟨⟨by decide +kernel, by decide +kernel⟩, List.mem_of_getElem? (i := 715) (by decide +kernel), List.mem_of_getElem? (i := 959) (by decide +kernel), List.mem_of_getElem? (i := 960) (by decide +kernel)⟩
def lw_privs_2 : List (MethodName × Nat) := [(⟨"StretchedCarpetModel", "isNumber", "(III)Z"⟩, 27), (⟨"StretchedCarpetModel", "isPair", "(IIIII)Z"⟩, 27), (⟨"StretchedCarpetModel", "isOne", "(III)Z"⟩, 27), (⟨"StretchedCarpetModel", "isDampItem", "()Z"⟩, 27), (⟨"StretchedCarpetModel", "lengthOf", "(I)I"⟩, 27), (⟨"StretchedCarpetModel", "dampBy", "(I)I"⟩, 27), (⟨"StretchedCarpetModel", "longFor", "(II)I"⟩, 27), (⟨"StretchedCarpetModel", "rollIn", "([I)I"⟩, 27), (⟨"StretchedCarpetModel", "note", "()V"⟩, 27), (⟨"StretchedCarpetModel", "isCovered", "()Z"⟩, 27), (⟨"StretchedCarpetModel", "kick", "([III)V"⟩, 27), (⟨"StretchedCarpetModel", "tightBy", "([III)I"⟩, 27), (⟨"StretchedCarpetModel", "passMonth", "([I)V"⟩, 27), (⟨"StretchedCarpetModel", "layPlan", "()V"⟩, 27), (⟨"StretchedCarpetModel", "covers", "(II)Z"⟩, 27), (⟨"StretchedCarpetModel", "seamAt", "(I)I"⟩, 27)]
theorem lw_r2 : ∀ q ∈ lw_privs_2, lw_okq q := List.forall_mem_cons.mpr ⟨lw_p16, List.forall_mem_cons.mpr ⟨lw_p17, List.forall_mem_cons.mpr ⟨lw_p18, List.forall_mem_cons.mpr ⟨lw_p19, List.forall_mem_cons.mpr ⟨lw_p20, List.forall_mem_cons.mpr ⟨lw_p21, List.forall_mem_cons.mpr ⟨lw_p22, List.forall_mem_cons.mpr ⟨lw_p23, List.forall_mem_cons.mpr ⟨lw_p24, List.forall_mem_cons.mpr ⟨lw_p25, List.forall_mem_cons.mpr ⟨lw_p26, List.forall_mem_cons.mpr ⟨lw_p27, List.forall_mem_cons.mpr ⟨lw_p28, List.forall_mem_cons.mpr ⟨lw_p29, List.forall_mem_cons.mpr ⟨lw_p30, List.forall_mem_cons.mpr ⟨lw_p31, fun _ h => absurd h List.not_mem_nil⟩⟩⟩⟩⟩⟩⟩⟩⟩⟩⟩⟩⟩⟩⟩⟩
theorem lw_p32 : lw_okq (⟨"StretchedCarpetModel", "isBefore", "(I)Z"⟩, 27) := ⟨⟨by decide +kernel, by decide +kernel⟩, List.mem_of_getElem? (i := 715) (by decide +kernel), List.mem_of_getElem? (i := 963) (by decide +kernel), List.mem_of_getElem? (i := 964) (by decide +kernel)⟩
theorem lw_p33 : lw_okq (⟨"StretchedCarpetModel", "layOrder", "()V"⟩, 27) := ⟨⟨by decide +kernel, by decide +kernel⟩, List.mem_of_getElem? (i := 715) (by decide +kernel), List.mem_of_getElem? (i := 971) (by decide +kernel), List.mem_of_getElem? (i := 972) (by decide +kernel)⟩
theorem lw_p34 : lw_okq (⟨"StretchedCarpetModel", "kicks", "(I)I"⟩, 27) := ⟨⟨by decide +kernel, by decide +kernel⟩, List.mem_of_getElem? (i := 715) (by decide +kernel), List.mem_of_getElem? (i := 975) (by decide +kernel), List.mem_of_getElem? (i := 976) (by decide +kernel)⟩
theorem lw_p35 : lw_okq (⟨"StretchedCarpetModel", "begin", "()V"⟩, 27) := ⟨⟨by decide +kernel, by decide +kernel⟩, List.mem_of_getElem? (i := 715) (by decide +kernel), List.mem_of_getElem? (i := 979) (by decide +kernel), List.mem_of_getElem? (i := 980) (by decide +kernel)⟩
theorem lw_p36 : lw_okq (⟨"StretchedCarpetModel", "leastKick", "([III)I"⟩, 27) := ⟨⟨by decide +kernel, by decide +kernel⟩, List.mem_of_getElem? (i := 715) (by decide +kernel), List.mem_of_getElem? (i := 983) (by decide +kernel), List.mem_of_getElem? (i := 984) (by decide +kernel)⟩
theorem lw_p37 : lw_okq (⟨"StretchedCarpetModel", "wavesAt", "(I)I"⟩, 27) := ⟨⟨by decide +kernel, by decide +kernel⟩, List.mem_of_getElem? (i := 715) (by decide +kernel), List.mem_of_getElem? (i := 995) (by decide +kernel), List.mem_of_getElem? (i := 996) (by decide +kernel)⟩
theorem lw_p38 : lw_okq (⟨"StretchedCarpetModel", "isSo", "(II)Z"⟩, 27) := ⟨⟨by decide +kernel, by decide +kernel⟩, List.mem_of_getElem? (i := 715) (by decide +kernel), List.mem_of_getElem? (i := 1015) (by decide +kernel), List.mem_of_getElem? (i := 1016) (by decide +kernel)⟩
def lw_privs_3 : List (MethodName × Nat) := [(⟨"StretchedCarpetModel", "isBefore", "(I)Z"⟩, 27), (⟨"StretchedCarpetModel", "layOrder", "()V"⟩, 27), (⟨"StretchedCarpetModel", "kicks", "(I)I"⟩, 27), (⟨"StretchedCarpetModel", "begin", "()V"⟩, 27), (⟨"StretchedCarpetModel", "leastKick", "([III)I"⟩, 27), (⟨"StretchedCarpetModel", "wavesAt", "(I)I"⟩, 27), (⟨"StretchedCarpetModel", "isSo", "(II)Z"⟩, 27)]
theorem lw_r3 : ∀ q ∈ lw_privs_3, lw_okq q := List.forall_mem_cons.mpr ⟨lw_p32, List.forall_mem_cons.mpr ⟨lw_p33, List.forall_mem_cons.mpr ⟨lw_p34, List.forall_mem_cons.mpr ⟨lw_p35, List.forall_mem_cons.mpr ⟨lw_p36, List.forall_mem_cons.mpr ⟨lw_p37, List.forall_mem_cons.mpr ⟨lw_p38, fun _ h => absurd h List.not_mem_nil⟩⟩⟩⟩⟩⟩⟩
def lw_privs : List (MethodName × Nat) := lw_privs_1 ++ (lw_privs_2 ++ (lw_privs_3))
def lw_tbl : List Cond := k2_sels lw_privs ++ tables_1
theorem lw_privs_ok : ∀ q ∈ lw_privs, lw_okq q := by
  show ∀ q ∈ lw_privs_1 ++ (lw_privs_2 ++ (lw_privs_3)), lw_okq q
  exact List.forall_mem_append.mpr ⟨lw_r1, List.forall_mem_append.mpr ⟨lw_r2, lw_r3⟩⟩
end
section
def RX0 : String := "StretchedCarpet$Carpet"
def TX0 : u_T := fun k => match k with
  | 0 => ("StretchedCarpet$Carpet", "breadths", "[I", true)
  | 1 => ("StretchedCarpet$Carpet", "tightnesses", "[I", true)
  | 2 => ("StretchedCarpet$Carpet", "lengths", "I", false)
  | 3 => ("StretchedCarpet$Carpet", "covered", "I", false)
  | 4 => ("StretchedCarpet$Carpet", "rollLeft", "I", false)
  | 5 => ("StretchedCarpet$Carpet", "hooked", "I", false)
  | 6 => ("StretchedCarpet$Carpet", "torn", "I", false)
  | _ => ("StretchedCarpet$Carpet", "month", "I", false)
def tyX0 : Nat → FieldType := fun k => match k with
  | 0 => .array .int
  | 1 => .array .int
  | 2 => .int
  | 3 => .int
  | 4 => .int
  | 5 => .int
  | 6 => .int
  | _ => .int
theorem nmX0 : ∀ a, a < 8 → ∀ b, b < 8 → a ≠ b → (TX0 a).2.1 ≠ (TX0 b).2.1 := by decide +kernel
theorem tyX0_ok : ∀ k, k < 8 → parseFieldDescriptor (TX0 k).2.2.1 = some (tyX0 k) := by decide +kernel
abbrev cX0_init : ByteArray := prog_2_method_1_code
def yX0_init : MethodName := ⟨RX0, "<init>", "()V"⟩
abbrev cX0_clear : ByteArray := prog_2_method_2_code
def yX0_clear : MethodName := ⟨RX0, "clear", "(I)V"⟩
abbrev cX0_copyFrom : ByteArray := prog_2_method_3_code
def yX0_copyFrom : MethodName := ⟨RX0, "copyFrom", "(LStretchedCarpet$Carpet;)V"⟩
abbrev cX0_isCovered : ByteArray := prog_2_method_4_code
def yX0_isCovered : MethodName := ⟨RX0, "isCovered", "(LStretchedCarpet$Room;)Z"⟩
abbrev cX0_canCut : ByteArray := prog_2_method_5_code
def yX0_canCut : MethodName := ⟨RX0, "canCut", "(LStretchedCarpet$Room;I)Z"⟩
abbrev cX0_cutFor : ByteArray := prog_2_method_6_code
def yX0_cutFor : MethodName := ⟨RX0, "cutFor", "(LStretchedCarpet$Room;I)I"⟩
abbrev cX0_lengthOver : ByteArray := prog_2_method_7_code
def yX0_lengthOver : MethodName := ⟨RX0, "lengthOver", "(I)I"⟩
abbrev cX0_isSeamAt : ByteArray := prog_2_method_8_code
def yX0_isSeamAt : MethodName := ⟨RX0, "isSeamAt", "(I)Z"⟩
abbrev cX0_hasRestFor : ByteArray := prog_2_method_9_code
def yX0_hasRestFor : MethodName := ⟨RX0, "hasRestFor", "(LStretchedCarpet$Room;II)Z"⟩
abbrev cX0_areaOfRests : ByteArray := prog_2_method_10_code
def yX0_areaOfRests : MethodName := ⟨RX0, "areaOfRests", "(LStretchedCarpet$Room;)I"⟩
abbrev cX0_tightness : ByteArray := prog_2_method_11_code
def yX0_tightness : MethodName := ⟨RX0, "tightness", "(I)I"⟩
abbrev cX0_isHooked : ByteArray := prog_2_method_12_code
def yX0_isHooked : MethodName := ⟨RX0, "isHooked", "(I)Z"⟩
abbrev cX0_isTorn : ByteArray := prog_2_method_13_code
def yX0_isTorn : MethodName := ⟨RX0, "isTorn", "(I)Z"⟩
abbrev cX0_isFree : ByteArray := prog_2_method_14_code
def yX0_isFree : MethodName := ⟨RX0, "isFree", "(I)Z"⟩
abbrev cX0_isWaving : ByteArray := prog_2_method_15_code
def yX0_isWaving : MethodName := ⟨RX0, "isWaving", "(I)Z"⟩
abbrev cX0_tightnessInAll : ByteArray := prog_2_method_16_code
def yX0_tightnessInAll : MethodName := ⟨RX0, "tightnessInAll", "()I"⟩
abbrev cX0_tightnessBy : ByteArray := prog_2_method_17_code
def yX0_tightnessBy : MethodName := ⟨RX0, "tightnessBy", "(LStretchedCarpet$Room;II)I"⟩
abbrev cX0_leastKick : ByteArray := prog_2_method_18_code
def yX0_leastKick : MethodName := ⟨RX0, "leastKick", "(LStretchedCarpet$Room;II)I"⟩
abbrev cX0_hookOn : ByteArray := prog_2_method_19_code
def yX0_hookOn : MethodName := ⟨RX0, "hookOn", "(LStretchedCarpet$Room;II)I"⟩
abbrev cX0_unhook : ByteArray := prog_2_method_20_code
def yX0_unhook : MethodName := ⟨RX0, "unhook", "(I)I"⟩
abbrev cX0_passMonth : ByteArray := prog_2_method_21_code
def yX0_passMonth : MethodName := ⟨RX0, "passMonth", "(LStretchedCarpet$Room;)V"⟩
abbrev cX0_monthsToWave : ByteArray := prog_2_method_22_code
def yX0_monthsToWave : MethodName := ⟨RX0, "monthsToWave", "(LStretchedCarpet$Room;I)I"⟩
abbrev cX0_takeStep : ByteArray := prog_2_method_23_code
def yX0_takeStep : MethodName := ⟨RX0, "takeStep", "(LStretchedCarpet$Room;I)V"⟩
def RX1 : String := "StretchedCarpet$CutPlan"
def TX1 : u_T := fun k => match k with
  | 0 => ("StretchedCarpet$CutPlan", "cutFrom", "[I", true)
  | 1 => ("StretchedCarpet$CutPlan", "seamsFrom", "[I", true)
  | 2 => ("StretchedCarpet$CutPlan", "breadthFrom", "[I", true)
  | 3 => ("StretchedCarpet$CutPlan", "start", "I", false)
  | 4 => ("StretchedCarpet$CutPlan", "end", "I", false)
  | 5 => ("StretchedCarpet$CutPlan", "does", "Z", false)
  | 6 => ("StretchedCarpet$CutPlan", "leastCut", "I", false)
  | _ => ("StretchedCarpet$CutPlan", "leastSeams", "I", false)
def tyX1 : Nat → FieldType := fun k => match k with
  | 0 => .array .int
  | 1 => .array .int
  | 2 => .array .int
  | 3 => .int
  | 4 => .int
  | 5 => .boolean
  | 6 => .int
  | _ => .int
theorem nmX1 : ∀ a, a < 8 → ∀ b, b < 8 → a ≠ b → (TX1 a).2.1 ≠ (TX1 b).2.1 := by decide +kernel
theorem tyX1_ok : ∀ k, k < 8 → parseFieldDescriptor (TX1 k).2.2.1 = some (tyX1 k) := by decide +kernel
abbrev cX1_init : ByteArray := prog_3_method_1_code
def yX1_init : MethodName := ⟨RX1, "<init>", "()V"⟩
abbrev cX1_make : ByteArray := prog_3_method_2_code
def yX1_make : MethodName := ⟨RX1, "make", "(LStretchedCarpet$Room;LStretchedCarpet$Carpet;)V"⟩
abbrev cX1_choose : ByteArray := prog_3_method_3_code
def yX1_choose : MethodName := ⟨RX1, "choose", "(LStretchedCarpet$Room;I)V"⟩
abbrev cX1_isLess : ByteArray := prog_3_method_4_code
def yX1_isLess : MethodName := ⟨RX1, "isLess", "(III)Z"⟩
abbrev cX1_breadthOf : ByteArray := prog_3_method_5_code
def yX1_breadthOf : MethodName := ⟨RX1, "breadthOf", "(I)I"⟩
def RX2 : String := "StretchedCarpet$HookOrder"
def TX2 : u_T := fun k => match k with
  | 0 => ("StretchedCarpet$HookOrder", "free", "I", false)
  | 1 => ("StretchedCarpet$HookOrder", "bestCode", "I", false)
  | _ => ("StretchedCarpet$HookOrder", "leastKicks", "I", false)
def tyX2 : Nat → FieldType := fun k => match k with
  | 0 => .int
  | 1 => .int
  | _ => .int
theorem nmX2 : ∀ a, a < 3 → ∀ b, b < 3 → a ≠ b → (TX2 a).2.1 ≠ (TX2 b).2.1 := by decide +kernel
theorem tyX2_ok : ∀ k, k < 3 → parseFieldDescriptor (TX2 k).2.2.1 = some (tyX2 k) := by decide +kernel
abbrev cX2_init : ByteArray := prog_4_method_1_code
def yX2_init : MethodName := ⟨RX2, "<init>", "()V"⟩
abbrev cX2_make : ByteArray := prog_4_method_2_code
def yX2_make : MethodName := ⟨RX2, "make", "(LStretchedCarpet$Room;LStretchedCarpet$Carpet;LStretchedCarpet$Carpet;)V"⟩
abbrev cX2_wallIn : ByteArray := prog_4_method_3_code
def yX2_wallIn : MethodName := ⟨RX2, "wallIn", "(II)I"⟩
abbrev cX2_isOrder : ByteArray := prog_4_method_4_code
def yX2_isOrder : MethodName := ⟨RX2, "isOrder", "(LStretchedCarpet$Carpet;I)Z"⟩
abbrev cX2_kicksOf : ByteArray := prog_4_method_5_code
def yX2_kicksOf : MethodName := ⟨RX2, "kicksOf", "(LStretchedCarpet$Room;LStretchedCarpet$Carpet;LStretchedCarpet$Carpet;I)I"⟩
abbrev cX2_wallAt : ByteArray := prog_4_method_6_code
def yX2_wallAt : MethodName := ⟨RX2, "wallAt", "(I)I"⟩
def RX3 : String := "StretchedCarpet$Room"
def TX3 : u_T := fun k => match k with
  | 0 => ("StretchedCarpet$Room", "stripLengths", "[I", true)
  | 1 => ("StretchedCarpet$Room", "lights", "[I", true)
  | 2 => ("StretchedCarpet$Room", "treads", "[I", true)
  | 3 => ("StretchedCarpet$Room", "damps", "[I", true)
  | 4 => ("StretchedCarpet$Room", "numbers", "[I", true)
  | 5 => ("StretchedCarpet$Room", "strips", "I", false)
  | 6 => ("StretchedCarpet$Room", "dampCount", "I", false)
  | 7 => ("StretchedCarpet$Room", "rollBroad", "I", false)
  | 8 => ("StretchedCarpet$Room", "rollLong", "I", false)
  | 9 => ("StretchedCarpet$Room", "over", "I", false)
  | 10 => ("StretchedCarpet$Room", "hookHold", "I", false)
  | 11 => ("StretchedCarpet$Room", "kind", "I", false)
  | _ => ("StretchedCarpet$Room", "gives", "I", false)
def tyX3 : Nat → FieldType := fun k => match k with
  | 0 => .array .int
  | 1 => .array .int
  | 2 => .array .int
  | 3 => .array .int
  | 4 => .array .int
  | 5 => .int
  | 6 => .int
  | 7 => .int
  | 8 => .int
  | 9 => .int
  | 10 => .int
  | 11 => .int
  | _ => .int
theorem nmX3 : ∀ a, a < 13 → ∀ b, b < 13 → a ≠ b → (TX3 a).2.1 ≠ (TX3 b).2.1 := by decide +kernel
theorem tyX3_ok : ∀ k, k < 13 → parseFieldDescriptor (TX3 k).2.2.1 = some (tyX3 k) := by decide +kernel
abbrev cX3_init : ByteArray := prog_5_method_1_code
def yX3_init : MethodName := ⟨RX3, "<init>", "()V"⟩
abbrev cX3_clear : ByteArray := prog_5_method_2_code
def yX3_clear : MethodName := ⟨RX3, "clear", "()V"⟩
abbrev cX3_readText : ByteArray := prog_5_method_3_code
def yX3_readText : MethodName := ⟨RX3, "readText", "([CI)I"⟩
abbrev cX3_readNumbers : ByteArray := prog_5_method_4_code
def yX3_readNumbers : MethodName := ⟨RX3, "readNumbers", "([CII)I"⟩
abbrev cX3_numbersBehind : ByteArray := prog_5_method_5_code
def yX3_numbersBehind : MethodName := ⟨RX3, "numbersBehind", "(I)I"⟩
abbrev cX3_figuresAt : ByteArray := prog_5_method_6_code
def yX3_figuresAt : MethodName := ⟨RX3, "figuresAt", "([CII)I"⟩
abbrev cX3_numberAt : ByteArray := prog_5_method_7_code
def yX3_numberAt : MethodName := ⟨RX3, "numberAt", "([CIII)I"⟩
abbrev cX3_isFigure : ByteArray := prog_5_method_8_code
def yX3_isFigure : MethodName := ⟨RX3, "isFigure", "(I)Z"⟩
abbrev cX3_letterAt : ByteArray := prog_5_method_9_code
def yX3_letterAt : MethodName := ⟨RX3, "letterAt", "([CII)I"⟩
abbrev cX3_takeItem : ByteArray := prog_5_method_10_code
def yX3_takeItem : MethodName := ⟨RX3, "takeItem", "(I)Z"⟩
abbrev cX3_takeStrip : ByteArray := prog_5_method_11_code
def yX3_takeStrip : MethodName := ⟨RX3, "takeStrip", "(III)Z"⟩
abbrev cX3_takeDamp : ByteArray := prog_5_method_12_code
def yX3_takeDamp : MethodName := ⟨RX3, "takeDamp", "(I)Z"⟩
abbrev cX3_lengthOfStrip : ByteArray := prog_5_method_13_code
def yX3_lengthOfStrip : MethodName := ⟨RX3, "lengthOfStrip", "(I)I"⟩
abbrev cX3_lightAt : ByteArray := prog_5_method_14_code
def yX3_lightAt : MethodName := ⟨RX3, "lightAt", "(I)I"⟩
abbrev cX3_treadAt : ByteArray := prog_5_method_15_code
def yX3_treadAt : MethodName := ⟨RX3, "treadAt", "(I)I"⟩
abbrev cX3_dampOf : ByteArray := prog_5_method_16_code
def yX3_dampOf : MethodName := ⟨RX3, "dampOf", "(I)I"⟩
abbrev cX3_slackeningIn : ByteArray := prog_5_method_17_code
def yX3_slackeningIn : MethodName := ⟨RX3, "slackeningIn", "(I)I"⟩
abbrev cX3_lengthFor : ByteArray := prog_5_method_18_code
def yX3_lengthFor : MethodName := ⟨RX3, "lengthFor", "(II)I"⟩
def RX4 : String := "StretchedCarpet$Shelf"
def TX4 : u_T := fun k => match k with
  | 0 => ("StretchedCarpet$Shelf", "rows", "[LStretchedCarpet$Carpet;", true)
  | 1 => ("StretchedCarpet$Shelf", "next", "I", false)
  | _ => ("StretchedCarpet$Shelf", "size", "I", false)
def tyX4 : Nat → FieldType := fun k => match k with
  | 0 => .array (.object "StretchedCarpet$Carpet")
  | 1 => .int
  | _ => .int
theorem nmX4 : ∀ a, a < 3 → ∀ b, b < 3 → a ≠ b → (TX4 a).2.1 ≠ (TX4 b).2.1 := by decide +kernel
theorem tyX4_ok : ∀ k, k < 3 → parseFieldDescriptor (TX4 k).2.2.1 = some (tyX4 k) := by decide +kernel
abbrev cX4_init : ByteArray := prog_6_method_1_code
def yX4_init : MethodName := ⟨RX4, "<init>", "(I)V"⟩
abbrev cX4_clear : ByteArray := prog_6_method_2_code
def yX4_clear : MethodName := ⟨RX4, "clear", "()V"⟩
abbrev cX4_isFull : ByteArray := prog_6_method_3_code
def yX4_isFull : MethodName := ⟨RX4, "isFull", "()Z"⟩
abbrev cX4_rowAt : ByteArray := prog_6_method_4_code
def yX4_rowAt : MethodName := ⟨RX4, "rowAt", "(I)LStretchedCarpet$Carpet;"⟩
abbrev cX4_push : ByteArray := prog_6_method_5_code
def yX4_push : MethodName := ⟨RX4, "push", "(LStretchedCarpet$Carpet;)V"⟩
abbrev cX4_pop : ByteArray := prog_6_method_6_code
def yX4_pop : MethodName := ⟨RX4, "pop", "(LStretchedCarpet$Carpet;)Z"⟩
def RX5 : String := "StretchedCarpet$Sightings"
def TX5 : u_T := fun k => match k with
  | 0 => ("StretchedCarpet$Sightings", "kicks", "[I", true)
  | 1 => ("StretchedCarpet$Sightings", "tightnesses", "[I", true)
  | _ => ("StretchedCarpet$Sightings", "size", "I", false)
def tyX5 : Nat → FieldType := fun k => match k with
  | 0 => .array .int
  | 1 => .array .int
  | _ => .int
theorem nmX5 : ∀ a, a < 3 → ∀ b, b < 3 → a ≠ b → (TX5 a).2.1 ≠ (TX5 b).2.1 := by decide +kernel
theorem tyX5_ok : ∀ k, k < 3 → parseFieldDescriptor (TX5 k).2.2.1 = some (tyX5 k) := by decide +kernel
abbrev cX5_init : ByteArray := prog_7_method_1_code
def yX5_init : MethodName := ⟨RX5, "<init>", "()V"⟩
abbrev cX5_clear : ByteArray := prog_7_method_2_code
def yX5_clear : MethodName := ⟨RX5, "clear", "()V"⟩
abbrev cX5_add : ByteArray := prog_7_method_3_code
def yX5_add : MethodName := ⟨RX5, "add", "(II)Z"⟩
abbrev cX5_kindsFor : ByteArray := prog_7_method_4_code
def yX5_kindsFor : MethodName := ⟨RX5, "kindsFor", "(I)I"⟩
abbrev cX5_givesFor : ByteArray := prog_7_method_5_code
def yX5_givesFor : MethodName := ⟨RX5, "givesFor", "(I)I"⟩
abbrev cX5_explainedBy : ByteArray := prog_7_method_6_code
def yX5_explainedBy : MethodName := ⟨RX5, "explainedBy", "(II)Z"⟩
def RX6 : String := "StretchedCarpet"
def TX6 : u_T := fun k => match k with
  | 0 => ("StretchedCarpet", "text", "[C", true)
  | 1 => ("StretchedCarpet", "letters", "I", false)
  | 2 => ("StretchedCarpet", "room", "LStretchedCarpet$Room;", false)
  | 3 => ("StretchedCarpet", "draft", "LStretchedCarpet$Room;", false)
  | 4 => ("StretchedCarpet", "carpet", "LStretchedCarpet$Carpet;", true)
  | 5 => ("StretchedCarpet", "trial", "LStretchedCarpet$Carpet;", true)
  | 6 => ("StretchedCarpet", "undoable", "LStretchedCarpet$Shelf;", true)
  | 7 => ("StretchedCarpet", "kept", "LStretchedCarpet$Shelf;", true)
  | 8 => ("StretchedCarpet", "sightings", "LStretchedCarpet$Sightings;", true)
  | 9 => ("StretchedCarpet", "cutPlan", "LStretchedCarpet$CutPlan;", true)
  | _ => ("StretchedCarpet", "hookOrder", "LStretchedCarpet$HookOrder;", true)
def tyX6 : Nat → FieldType := fun k => match k with
  | 0 => .array .char
  | 1 => .int
  | 2 => .object "StretchedCarpet$Room"
  | 3 => .object "StretchedCarpet$Room"
  | 4 => .object "StretchedCarpet$Carpet"
  | 5 => .object "StretchedCarpet$Carpet"
  | 6 => .object "StretchedCarpet$Shelf"
  | 7 => .object "StretchedCarpet$Shelf"
  | 8 => .object "StretchedCarpet$Sightings"
  | 9 => .object "StretchedCarpet$CutPlan"
  | _ => .object "StretchedCarpet$HookOrder"
theorem nmX6 : ∀ a, a < 11 → ∀ b, b < 11 → a ≠ b → (TX6 a).2.1 ≠ (TX6 b).2.1 := by decide +kernel
theorem tyX6_ok : ∀ k, k < 11 → parseFieldDescriptor (TX6 k).2.2.1 = some (tyX6 k) := by decide +kernel
abbrev cX6_init : ByteArray := prog_1_method_1_code
def yX6_init : MethodName := ⟨RX6, "<init>", "()V"⟩
abbrev cX6_write : ByteArray := prog_1_method_2_code
def yX6_write : MethodName := ⟨RX6, "write", "(I)I"⟩
abbrev cX6_wipe : ByteArray := prog_1_method_3_code
def yX6_wipe : MethodName := ⟨RX6, "wipe", "()I"⟩
abbrev cX6_fault : ByteArray := prog_1_method_4_code
def yX6_fault : MethodName := ⟨RX6, "fault", "()I"⟩
abbrev cX6_lay : ByteArray := prog_1_method_5_code
def yX6_lay : MethodName := ⟨RX6, "lay", "()I"⟩
abbrev cX6_strip : ByteArray := prog_1_method_6_code
def yX6_strip : MethodName := ⟨RX6, "strip", "(II)I"⟩
abbrev cX6_wall : ByteArray := prog_1_method_7_code
def yX6_wall : MethodName := ⟨RX6, "wall", "(II)I"⟩
abbrev cX6_damp : ByteArray := prog_1_method_8_code
def yX6_damp : MethodName := ⟨RX6, "damp", "(I)I"⟩
abbrev cX6_cut : ByteArray := prog_1_method_9_code
def yX6_cut : MethodName := ⟨RX6, "cut", "(I)I"⟩
abbrev cX6_hook : ByteArray := prog_1_method_10_code
def yX6_hook : MethodName := ⟨RX6, "hook", "(II)I"⟩
abbrev cX6_letGo : ByteArray := prog_1_method_11_code
def yX6_letGo : MethodName := ⟨RX6, "letGo", "(I)I"⟩
abbrev cX6_pass : ByteArray := prog_1_method_12_code
def yX6_pass : MethodName := ⟨RX6, "pass", "(I)I"⟩
abbrev cX6_undo : ByteArray := prog_1_method_13_code
def yX6_undo : MethodName := ⟨RX6, "undo", "()I"⟩
abbrev cX6_plan : ByteArray := prog_1_method_14_code
def yX6_plan : MethodName := ⟨RX6, "plan", "(I)I"⟩
abbrev cX6_order : ByteArray := prog_1_method_15_code
def yX6_order : MethodName := ⟨RX6, "order", "(I)I"⟩
abbrev cX6_kickFor : ByteArray := prog_1_method_16_code
def yX6_kickFor : MethodName := ⟨RX6, "kickFor", "(II)I"⟩
abbrev cX6_waves : ByteArray := prog_1_method_17_code
def yX6_waves : MethodName := ⟨RX6, "waves", "()I"⟩
abbrev cX6_longest : ByteArray := prog_1_method_18_code
def yX6_longest : MethodName := ⟨RX6, "longest", "()I"⟩
abbrev cX6_seen : ByteArray := prog_1_method_19_code
def yX6_seen : MethodName := ⟨RX6, "seen", "(II)I"⟩
abbrev cX6_forget : ByteArray := prog_1_method_20_code
def yX6_forget : MethodName := ⟨RX6, "forget", "()I"⟩
abbrev cX6_may : ByteArray := prog_1_method_21_code
def yX6_may : MethodName := ⟨RX6, "may", "(I)I"⟩
abbrev cX6_hall : ByteArray := prog_1_method_22_code
def yX6_hall : MethodName := ⟨RX6, "hall", "(II)I"⟩
abbrev cX6_left : ByteArray := prog_1_method_23_code
def yX6_left : MethodName := ⟨RX6, "left", "(I)I"⟩
abbrev cX6_likely : ByteArray := prog_1_method_24_code
def yX6_likely : MethodName := ⟨RX6, "likely", "(IIII)I"⟩
abbrev cX6_year : ByteArray := prog_1_method_25_code
def yX6_year : MethodName := ⟨RX6, "year", "(III)I"⟩
abbrev cX6_keep : ByteArray := prog_1_method_26_code
def yX6_keep : MethodName := ⟨RX6, "keep", "()I"⟩
abbrev cX6_back : ByteArray := prog_1_method_27_code
def yX6_back : MethodName := ⟨RX6, "back", "()I"⟩
abbrev cX6_count : ByteArray := prog_1_method_28_code
def yX6_count : MethodName := ⟨RX6, "count", "(I)I"⟩
abbrev cX6_within : ByteArray := prog_1_method_29_code
def yX6_within : MethodName := ⟨RX6, "within", "(III)Z"⟩
abbrev cX6_isWall : ByteArray := prog_1_method_30_code
def yX6_isWall : MethodName := ⟨RX6, "isWall", "(I)Z"⟩
abbrev cX6_at : ByteArray := prog_1_method_31_code
def yX6_at : MethodName := ⟨RX6, "at", "([II)I"⟩
abbrev cX6_put : ByteArray := prog_1_method_32_code
def yX6_put : MethodName := ⟨RX6, "put", "([III)V"⟩
abbrev cX6_copy : ByteArray := prog_1_method_33_code
def yX6_copy : MethodName := ⟨RX6, "copy", "([I[I)V"⟩
abbrev cX6_power : ByteArray := prog_1_method_34_code
def yX6_power : MethodName := ⟨RX6, "power", "(II)I"⟩
abbrev cX6_commonDivisor : ByteArray := prog_1_method_35_code
def yX6_commonDivisor : MethodName := ⟨RX6, "commonDivisor", "(II)I"⟩
abbrev cX6_waysToWave : ByteArray := prog_1_method_36_code
def yX6_waysToWave : MethodName := ⟨RX6, "waysToWave", "(III)I"⟩
abbrev cX6_draw : ByteArray := prog_1_method_37_code
def yX6_draw : MethodName := ⟨RX6, "draw", "(II)I"⟩
abbrev cX6_slackOf : ByteArray := prog_1_method_38_code
def yX6_slackOf : MethodName := ⟨RX6, "slackOf", "(III)I"⟩
def RX7 : String := "StretchedCarpetModel"
def TX7 : u_T := fun k => match k with
  | 0 => ("StretchedCarpetModel", "letters", "I", false)
  | 1 => ("StretchedCarpetModel", "text", "[I", true)
  | 2 => ("StretchedCarpetModel", "position", "I", false)
  | 3 => ("StretchedCarpetModel", "number", "I", false)
  | 4 => ("StretchedCarpetModel", "readMany", "I", false)
  | 5 => ("StretchedCarpetModel", "readDamps", "I", false)
  | 6 => ("StretchedCarpetModel", "readStrip", "[I", true)
  | 7 => ("StretchedCarpetModel", "readDamp", "[I", true)
  | 8 => ("StretchedCarpetModel", "readLaw", "[I", true)
  | 9 => ("StretchedCarpetModel", "many", "I", false)
  | 10 => ("StretchedCarpetModel", "damps", "I", false)
  | 11 => ("StretchedCarpetModel", "strip", "[I", true)
  | 12 => ("StretchedCarpetModel", "dampOf", "[I", true)
  | 13 => ("StretchedCarpetModel", "law", "[I", true)
  | 14 => ("StretchedCarpetModel", "now", "[I", true)
  | 15 => ("StretchedCarpetModel", "tried", "[I", true)
  | 16 => ("StretchedCarpetModel", "backOf", "[I", true)
  | 17 => ("StretchedCarpetModel", "backs", "I", false)
  | 18 => ("StretchedCarpetModel", "kept", "[I", true)
  | 19 => ("StretchedCarpetModel", "keptMany", "I", false)
  | 20 => ("StretchedCarpetModel", "sights", "I", false)
  | 21 => ("StretchedCarpetModel", "sight", "[I", true)
  | 22 => ("StretchedCarpetModel", "row", "[I", true)
  | 23 => ("StretchedCarpetModel", "bestRow", "[I", true)
  | 24 => ("StretchedCarpetModel", "bestMany", "I", false)
  | 25 => ("StretchedCarpetModel", "bestCut", "I", false)
  | _ => ("StretchedCarpetModel", "bestSeams", "I", false)
def tyX7 : Nat → FieldType := fun k => match k with
  | 0 => .int
  | 1 => .array .int
  | 2 => .int
  | 3 => .int
  | 4 => .int
  | 5 => .int
  | 6 => .array .int
  | 7 => .array .int
  | 8 => .array .int
  | 9 => .int
  | 10 => .int
  | 11 => .array .int
  | 12 => .array .int
  | 13 => .array .int
  | 14 => .array .int
  | 15 => .array .int
  | 16 => .array .int
  | 17 => .int
  | 18 => .array .int
  | 19 => .int
  | 20 => .int
  | 21 => .array .int
  | 22 => .array .int
  | 23 => .array .int
  | 24 => .int
  | 25 => .int
  | _ => .int
theorem nmX7 : ∀ a, a < 27 → ∀ b, b < 27 → a ≠ b → (TX7 a).2.1 ≠ (TX7 b).2.1 := by decide +kernel
theorem tyX7_ok : ∀ k, k < 27 → parseFieldDescriptor (TX7 k).2.2.1 = some (tyX7 k) := by decide +kernel
abbrev cX7_init : ByteArray := prog_9_method_1_code
def yX7_init : MethodName := ⟨RX7, "<init>", "()V"⟩
abbrev cX7_addStrip : ByteArray := prog_9_method_2_code
def yX7_addStrip : MethodName := ⟨RX7, "addStrip", "(IIII)V"⟩
abbrev cX7_in : ByteArray := prog_9_method_3_code
def yX7_in : MethodName := ⟨RX7, "in", "(III)Z"⟩
abbrev cX7_has : ByteArray := prog_9_method_4_code
def yX7_has : MethodName := ⟨RX7, "has", "(II)Z"⟩
abbrev cX7_bits : ByteArray := prog_9_method_5_code
def yX7_bits : MethodName := ⟨RX7, "bits", "(I)I"⟩
abbrev cX7_bring : ByteArray := prog_9_method_6_code
def yX7_bring : MethodName := ⟨RX7, "bring", "([II[III)V"⟩
abbrev cX7_write : ByteArray := prog_9_method_7_code
def yX7_write : MethodName := ⟨RX7, "write", "(I)I"⟩
abbrev cX7_wipe : ByteArray := prog_9_method_8_code
def yX7_wipe : MethodName := ⟨RX7, "wipe", "()I"⟩
abbrev cX7_letterAt : ByteArray := prog_9_method_9_code
def yX7_letterAt : MethodName := ⟨RX7, "letterAt", "(I)I"⟩
abbrev cX7_isNumber : ByteArray := prog_9_method_10_code
def yX7_isNumber : MethodName := ⟨RX7, "isNumber", "(III)Z"⟩
abbrev cX7_isStripItem : ByteArray := prog_9_method_11_code
def yX7_isStripItem : MethodName := ⟨RX7, "isStripItem", "()Z"⟩
abbrev cX7_isDampItem : ByteArray := prog_9_method_12_code
def yX7_isDampItem : MethodName := ⟨RX7, "isDampItem", "()Z"⟩
abbrev cX7_isPair : ByteArray := prog_9_method_13_code
def yX7_isPair : MethodName := ⟨RX7, "isPair", "(IIIII)Z"⟩
abbrev cX7_isOne : ByteArray := prog_9_method_14_code
def yX7_isOne : MethodName := ⟨RX7, "isOne", "(III)Z"⟩
abbrev cX7_isItem : ByteArray := prog_9_method_15_code
def yX7_isItem : MethodName := ⟨RX7, "isItem", "()Z"⟩
abbrev cX7_fault : ByteArray := prog_9_method_16_code
def yX7_fault : MethodName := ⟨RX7, "fault", "()I"⟩
abbrev cX7_lay : ByteArray := prog_9_method_17_code
def yX7_lay : MethodName := ⟨RX7, "lay", "()I"⟩
abbrev cX7_coveredIn : ByteArray := prog_9_method_18_code
def yX7_coveredIn : MethodName := ⟨RX7, "coveredIn", "([I)I"⟩
abbrev cX7_rollIn : ByteArray := prog_9_method_19_code
def yX7_rollIn : MethodName := ⟨RX7, "rollIn", "([I)I"⟩
abbrev cX7_lengthOf : ByteArray := prog_9_method_20_code
def yX7_lengthOf : MethodName := ⟨RX7, "lengthOf", "(I)I"⟩
abbrev cX7_strip : ByteArray := prog_9_method_21_code
def yX7_strip : MethodName := ⟨RX7, "strip", "(II)I"⟩
abbrev cX7_isHooked : ByteArray := prog_9_method_22_code
def yX7_isHooked : MethodName := ⟨RX7, "isHooked", "([II)Z"⟩
abbrev cX7_wall : ByteArray := prog_9_method_23_code
def yX7_wall : MethodName := ⟨RX7, "wall", "(II)I"⟩
abbrev cX7_dampBy : ByteArray := prog_9_method_24_code
def yX7_dampBy : MethodName := ⟨RX7, "dampBy", "(I)I"⟩
abbrev cX7_damp : ByteArray := prog_9_method_25_code
def yX7_damp : MethodName := ⟨RX7, "damp", "(I)I"⟩
abbrev cX7_note : ByteArray := prog_9_method_26_code
def yX7_note : MethodName := ⟨RX7, "note", "()V"⟩
abbrev cX7_longFor : ByteArray := prog_9_method_27_code
def yX7_longFor : MethodName := ⟨RX7, "longFor", "(II)I"⟩
abbrev cX7_cut : ByteArray := prog_9_method_28_code
def yX7_cut : MethodName := ⟨RX7, "cut", "(I)I"⟩
abbrev cX7_givesBy : ByteArray := prog_9_method_29_code
def yX7_givesBy : MethodName := ⟨RX7, "givesBy", "(III)I"⟩
abbrev cX7_tightBy : ByteArray := prog_9_method_30_code
def yX7_tightBy : MethodName := ⟨RX7, "tightBy", "([III)I"⟩
abbrev cX7_isFree : ByteArray := prog_9_method_31_code
def yX7_isFree : MethodName := ⟨RX7, "isFree", "([II)Z"⟩
abbrev cX7_kick : ByteArray := prog_9_method_32_code
def yX7_kick : MethodName := ⟨RX7, "kick", "([III)V"⟩
abbrev cX7_isCovered : ByteArray := prog_9_method_33_code
def yX7_isCovered : MethodName := ⟨RX7, "isCovered", "()Z"⟩
abbrev cX7_hook : ByteArray := prog_9_method_34_code
def yX7_hook : MethodName := ⟨RX7, "hook", "(II)I"⟩
abbrev cX7_loosen : ByteArray := prog_9_method_35_code
def yX7_loosen : MethodName := ⟨RX7, "loosen", "([II)V"⟩
abbrev cX7_letGo : ByteArray := prog_9_method_36_code
def yX7_letGo : MethodName := ⟨RX7, "letGo", "(I)I"⟩
abbrev cX7_passMonth : ByteArray := prog_9_method_37_code
def yX7_passMonth : MethodName := ⟨RX7, "passMonth", "([I)V"⟩
abbrev cX7_pass : ByteArray := prog_9_method_38_code
def yX7_pass : MethodName := ⟨RX7, "pass", "(I)I"⟩
abbrev cX7_undo : ByteArray := prog_9_method_39_code
def yX7_undo : MethodName := ⟨RX7, "undo", "()I"⟩
abbrev cX7_seamAt : ByteArray := prog_9_method_40_code
def yX7_seamAt : MethodName := ⟨RX7, "seamAt", "(I)I"⟩
abbrev cX7_covers : ByteArray := prog_9_method_41_code
def yX7_covers : MethodName := ⟨RX7, "covers", "(II)Z"⟩
abbrev cX7_isBefore : ByteArray := prog_9_method_42_code
def yX7_isBefore : MethodName := ⟨RX7, "isBefore", "(I)Z"⟩
abbrev cX7_layPlan : ByteArray := prog_9_method_43_code
def yX7_layPlan : MethodName := ⟨RX7, "layPlan", "()V"⟩
abbrev cX7_plan : ByteArray := prog_9_method_44_code
def yX7_plan : MethodName := ⟨RX7, "plan", "(I)I"⟩
abbrev cX7_begin : ByteArray := prog_9_method_45_code
def yX7_begin : MethodName := ⟨RX7, "begin", "()V"⟩
abbrev cX7_leastKick : ByteArray := prog_9_method_46_code
def yX7_leastKick : MethodName := ⟨RX7, "leastKick", "([III)I"⟩
abbrev cX7_layOrder : ByteArray := prog_9_method_47_code
def yX7_layOrder : MethodName := ⟨RX7, "layOrder", "()V"⟩
abbrev cX7_kicks : ByteArray := prog_9_method_48_code
def yX7_kicks : MethodName := ⟨RX7, "kicks", "(I)I"⟩
abbrev cX7_order : ByteArray := prog_9_method_49_code
def yX7_order : MethodName := ⟨RX7, "order", "(I)I"⟩
abbrev cX7_kickFor : ByteArray := prog_9_method_50_code
def yX7_kickFor : MethodName := ⟨RX7, "kickFor", "(II)I"⟩
abbrev cX7_wavesAt : ByteArray := prog_9_method_51_code
def yX7_wavesAt : MethodName := ⟨RX7, "wavesAt", "(I)I"⟩
abbrev cX7_waves : ByteArray := prog_9_method_52_code
def yX7_waves : MethodName := ⟨RX7, "waves", "()I"⟩
abbrev cX7_longest : ByteArray := prog_9_method_53_code
def yX7_longest : MethodName := ⟨RX7, "longest", "()I"⟩
abbrev cX7_seen : ByteArray := prog_9_method_54_code
def yX7_seen : MethodName := ⟨RX7, "seen", "(II)I"⟩
abbrev cX7_forget : ByteArray := prog_9_method_55_code
def yX7_forget : MethodName := ⟨RX7, "forget", "()I"⟩
abbrev cX7_isSo : ByteArray := prog_9_method_56_code
def yX7_isSo : MethodName := ⟨RX7, "isSo", "(II)Z"⟩
abbrev cX7_may : ByteArray := prog_9_method_57_code
def yX7_may : MethodName := ⟨RX7, "may", "(I)I"⟩
abbrev cX7_hall : ByteArray := prog_9_method_58_code
def yX7_hall : MethodName := ⟨RX7, "hall", "(II)I"⟩
abbrev cX7_left : ByteArray := prog_9_method_59_code
def yX7_left : MethodName := ⟨RX7, "left", "(I)I"⟩
abbrev cX7_likely : ByteArray := prog_9_method_60_code
def yX7_likely : MethodName := ⟨RX7, "likely", "(IIII)I"⟩
abbrev cX7_year : ByteArray := prog_9_method_61_code
def yX7_year : MethodName := ⟨RX7, "year", "(III)I"⟩
abbrev cX7_keep : ByteArray := prog_9_method_62_code
def yX7_keep : MethodName := ⟨RX7, "keep", "()I"⟩
abbrev cX7_back : ByteArray := prog_9_method_63_code
def yX7_back : MethodName := ⟨RX7, "back", "()I"⟩
abbrev cX7_count : ByteArray := prog_9_method_64_code
def yX7_count : MethodName := ⟨RX7, "count", "(I)I"⟩
def RJ6 : String := "java/lang/Integer"
abbrev cJ6_bitCount_0f7a4 : ByteArray := prog_10_method_49_code
def yJ6_bitCount_0f7a4 : MethodName := ⟨RJ6, "bitCount", "(I)I"⟩
def RJ9 : String := "java/lang/Math"
abbrev cJ9_max_7cf53 : ByteArray := prog_11_method_65_code
def yJ9_max_7cf53 : MethodName := ⟨RJ9, "max", "(II)I"⟩
abbrev cJ9_min_7cf53 : ByteArray := prog_11_method_69_code
def yJ9_min_7cf53 : MethodName := ⟨RJ9, "min", "(II)I"⟩
def RJ0 : String := "java/lang/String"
abbrev cJ0_length_8abf5 : ByteArray := prog_12_method_54_code
def yJ0_length_8abf5 : MethodName := ⟨RJ0, "length", "()I"⟩
abbrev cJ0_toCharArray_70df3 : ByteArray := prog_12_method_129_code
def yJ0_toCharArray_70df3 : MethodName := ⟨RJ0, "toCharArray", "()[C"⟩
abbrev cJ0_coder_7d493 : ByteArray := prog_12_method_152_code
def yJ0_coder_7d493 : MethodName := ⟨RJ0, "coder", "()B"⟩
abbrev cJ0_isLatin1_aae02 : ByteArray := prog_12_method_154_code
def yJ0_isLatin1_aae02 : MethodName := ⟨RJ0, "isLatin1", "()Z"⟩
abbrev cJ0_checkBoundsOffCount_cabcc : ByteArray := prog_12_method_157_code
def yJ0_checkBoundsOffCount_cabcc : MethodName := ⟨RJ0, "checkBoundsOffCount", "(III)I"⟩
def RJ1 : String := "java/lang/StringLatin1"
abbrev cJ1_toChars_9d188 : ByteArray := prog_13_method_9_code
def yJ1_toChars_9d188 : MethodName := ⟨RJ1, "toChars", "([B)[C"⟩
abbrev cJ1_inflate_03870 : ByteArray := prog_13_method_49_code
def yJ1_inflate_03870 : MethodName := ⟨RJ1, "inflate", "([BI[CII)V"⟩
def RJ2 : String := "java/lang/StringUTF16"
abbrev cJ2_getChar_3b067 : ByteArray := prog_14_method_5_code
def yJ2_getChar_3b067 : MethodName := ⟨RJ2, "getChar", "([BI)C"⟩
abbrev cJ2_length_9d52b : ByteArray := prog_14_method_6_code
def yJ2_length_9d52b : MethodName := ⟨RJ2, "length", "([B)I"⟩
abbrev cJ2_toChars_9d188 : ByteArray := prog_14_method_13_code
def yJ2_toChars_9d188 : MethodName := ⟨RJ2, "toChars", "([B)[C"⟩
abbrev cJ2_getChars_a1a8b : ByteArray := prog_14_method_26_code
def yJ2_getChars_a1a8b : MethodName := ⟨RJ2, "getChars", "([BII[CI)V"⟩
abbrev cJ2_checkBoundsOffCount_d044e : ByteArray := prog_14_method_94_code
def yJ2_checkBoundsOffCount_d044e : MethodName := ⟨RJ2, "checkBoundsOffCount", "(II[B)V"⟩
def RJ3 : String := "jdk/internal/util/Preconditions"
abbrev cJ3_checkFromIndexSize_8c36e : ByteArray := prog_15_method_13_code
def yJ3_checkFromIndexSize_8c36e : MethodName := ⟨RJ3, "checkFromIndexSize", "(IIILjava/util/function/BiFunction;)I"⟩
def RL : String := "StretchedCarpetLaw"
abbrev cL_law : ByteArray := code
def yL_law : MethodName := ⟨RL, "law", "([I)Z"⟩
end
section
section
/-- an int of the machine out of a whole number -/
def iI (z : Int) : Int32 := Int32.ofInt z
def lI (z : Int) : Int64 := Int64.ofInt z
/-- the words of the tables that every method has -/
def TB : List Cond := lw_tbl.filter goodWord
theorem tb_of {i : Nat} {c : Cond} (h : lw_tbl[i]? = some c) (hg : goodWord c = true) : c ∈ TB := List.mem_filter.mpr ⟨List.mem_of_getElem? h, hg⟩
/-- links to nest mates -/
def isNest : Cond → Bool
  | .fieldLinkNest .. => true
  | .methodLinkNest .. => true
  | _ => false
def NB : List Cond := lw_tbl.filter isNest
theorem nb_of {i : Nat} {c : Cond} (h : lw_tbl[i]? = some c) (hg : isNest c = true) : c ∈ NB := List.mem_filter.mpr ⟨List.mem_of_getElem? h, hg⟩
theorem tb_good : GoodIn TB TB := fun w hw => ⟨hw, good_of_word (List.mem_filter.mp hw).2⟩
def PN (U : State) : Prop := ∀ w ∈ NB, va_Nw w U
theorem PN.same {u U : State} (h : u.vm = U.vm) (k : PN u) : PN U := fun w hw => by
  have h1 := k w hw
  have h2 := (List.mem_filter.mp hw).2
  cases w <;> first | exact va_Nw.same rfl h h1 | exact absurd h2 Bool.false_ne_true
theorem PN.warm {s U : State} (h : s.WarmedH U.vm) (k : PN s) : PN U := fun w hw => by
  have h1 := k w hw
  have h2 := (List.mem_filter.mp hw).2
  cases w <;> first | exact va_Nw.warmF h h1 | exact va_Nw.warmM h h1 | exact absurd h2 Bool.false_ne_true
end
theorem tb_40 : Cond.initialized "StretchedCarpet" ∈ TB := tb_of (i := 40) (by decide +kernel) rfl
theorem tb_41 : Cond.initialized "StretchedCarpet$Room" ∈ TB := tb_of (i := 41) (by decide +kernel) rfl
theorem tb_42 : Cond.initialized "StretchedCarpet$Carpet" ∈ TB := tb_of (i := 42) (by decide +kernel) rfl
theorem tb_43 : Cond.initialized "StretchedCarpet$Shelf" ∈ TB := tb_of (i := 43) (by decide +kernel) rfl
theorem tb_44 : Cond.initialized "java/lang/Math" ∈ TB := tb_of (i := 44) (by decide +kernel) rfl
theorem tb_45 : Cond.initialized "StretchedCarpet$Sightings" ∈ TB := tb_of (i := 45) (by decide +kernel) rfl
theorem tb_46 : Cond.initialized "StretchedCarpet$CutPlan" ∈ TB := tb_of (i := 46) (by decide +kernel) rfl
theorem tb_47 : Cond.initialized "StretchedCarpet$HookOrder" ∈ TB := tb_of (i := 47) (by decide +kernel) rfl
theorem tb_52 : Cond.initialized "StretchedCarpetModel" ∈ TB := tb_of (i := 52) (by decide +kernel) rfl
theorem tb_53 : Cond.initialized "java/lang/Integer" ∈ TB := tb_of (i := 53) (by decide +kernel) rfl
theorem tb_54 : Cond.classLink "StretchedCarpetLaw" 7 "StretchedCarpet" ∈ TB := tb_of (i := 54) (by decide +kernel) rfl
theorem tb_55 : Cond.instantiable "StretchedCarpet" 11 ∈ TB := tb_of (i := 55) (by decide +kernel) rfl
theorem tb_56 : Cond.methodLink "StretchedCarpetLaw" 9 ⟨"StretchedCarpet", "<init>", "()V"⟩ ∈ TB := tb_of (i := 56) (by decide +kernel) rfl
theorem tb_57 : Cond.instanceMethod ⟨"StretchedCarpet", "<init>", "()V"⟩ ∈ TB := tb_of (i := 57) (by decide +kernel) rfl
theorem tb_58 : Cond.code ⟨"StretchedCarpet", "<init>", "()V"⟩ prog_1_method_1_code 1 (Option.none : Option Jvm.ClassFile.FieldType) ∈ TB := tb_of (i := 58) (by decide +kernel) rfl
theorem tb_59 : Cond.methodLink "StretchedCarpet" 1 ⟨"java/lang/Object", "<init>", "()V"⟩ ∈ TB := tb_of (i := 59) (by decide +kernel) rfl
theorem tb_60 : Cond.instanceMethod ⟨"java/lang/Object", "<init>", "()V"⟩ ∈ TB := tb_of (i := 60) (by decide +kernel) rfl
theorem tb_61 : Cond.code ⟨"java/lang/Object", "<init>", "()V"⟩ object_method_1_code 1 (Option.none : Option Jvm.ClassFile.FieldType) ∈ TB := tb_of (i := 61) (by decide +kernel) rfl
theorem tb_62 : Cond.classLink "StretchedCarpet" 13 "StretchedCarpet$Room" ∈ TB := tb_of (i := 62) (by decide +kernel) rfl
theorem tb_63 : Cond.instantiable "StretchedCarpet$Room" 13 ∈ TB := tb_of (i := 63) (by decide +kernel) rfl
theorem tb_64 : Cond.methodLink "StretchedCarpet" 15 ⟨"StretchedCarpet$Room", "<init>", "()V"⟩ ∈ TB := tb_of (i := 64) (by decide +kernel) rfl
theorem tb_65 : Cond.instanceMethod ⟨"StretchedCarpet$Room", "<init>", "()V"⟩ ∈ TB := tb_of (i := 65) (by decide +kernel) rfl
theorem tb_66 : Cond.code ⟨"StretchedCarpet$Room", "<init>", "()V"⟩ prog_5_method_1_code 1 (Option.none : Option Jvm.ClassFile.FieldType) ∈ TB := tb_of (i := 66) (by decide +kernel) rfl
theorem tb_67 : Cond.methodLink "StretchedCarpet$Room" 3 ⟨"java/lang/Object", "<init>", "()V"⟩ ∈ TB := tb_of (i := 67) (by decide +kernel) rfl
theorem tb_68 : Cond.methodLink "StretchedCarpet$Room" 27 ⟨"StretchedCarpet$Room", "clear", "()V"⟩ ∈ TB := tb_of (i := 68) (by decide +kernel) rfl
theorem tb_70 : Cond.instanceMethod ⟨"StretchedCarpet$Room", "clear", "()V"⟩ ∈ TB := tb_of (i := 70) (by decide +kernel) rfl
theorem tb_71 : Cond.code ⟨"StretchedCarpet$Room", "clear", "()V"⟩ prog_5_method_2_code 1 (Option.none : Option Jvm.ClassFile.FieldType) ∈ TB := tb_of (i := 71) (by decide +kernel) rfl
theorem tb_72 : Cond.fieldLink "StretchedCarpet$Room" 9 "StretchedCarpet$Room" "stripLengths" "[I" ∈ TB := tb_of (i := 72) (by decide +kernel) rfl
theorem tb_73 : Cond.fieldLink "StretchedCarpet$Room" 15 "StretchedCarpet$Room" "lights" "[I" ∈ TB := tb_of (i := 73) (by decide +kernel) rfl
theorem tb_74 : Cond.fieldLink "StretchedCarpet$Room" 18 "StretchedCarpet$Room" "treads" "[I" ∈ TB := tb_of (i := 74) (by decide +kernel) rfl
theorem tb_75 : Cond.fieldLink "StretchedCarpet$Room" 21 "StretchedCarpet$Room" "damps" "[I" ∈ TB := tb_of (i := 75) (by decide +kernel) rfl
theorem tb_76 : Cond.fieldLink "StretchedCarpet$Room" 24 "StretchedCarpet$Room" "numbers" "[I" ∈ TB := tb_of (i := 76) (by decide +kernel) rfl
theorem tb_77 : Cond.fieldLink "StretchedCarpet$Room" 30 "StretchedCarpet$Room" "strips" "I" ∈ TB := tb_of (i := 77) (by decide +kernel) rfl
theorem tb_78 : Cond.fieldLinkNest "StretchedCarpet$CutPlan" 34 "StretchedCarpet$Room" "strips" "I" "StretchedCarpet" ∈ NB := nb_of (i := 78) (by decide +kernel) rfl
theorem tb_79 : Cond.fieldLinkNest "StretchedCarpet$Carpet" 49 "StretchedCarpet$Room" "strips" "I" "StretchedCarpet" ∈ NB := nb_of (i := 79) (by decide +kernel) rfl
theorem tb_80 : Cond.fieldLinkNest "StretchedCarpet" 96 "StretchedCarpet$Room" "strips" "I" "StretchedCarpet" ∈ NB := nb_of (i := 80) (by decide +kernel) rfl
theorem tb_81 : Cond.fieldLink "StretchedCarpet$Room" 34 "StretchedCarpet$Room" "dampCount" "I" ∈ TB := tb_of (i := 81) (by decide +kernel) rfl
theorem tb_82 : Cond.fieldLink "StretchedCarpet$Room" 37 "StretchedCarpet$Room" "rollBroad" "I" ∈ TB := tb_of (i := 82) (by decide +kernel) rfl
theorem tb_83 : Cond.fieldLinkNest "StretchedCarpet$CutPlan" 70 "StretchedCarpet$Room" "rollBroad" "I" "StretchedCarpet" ∈ NB := nb_of (i := 83) (by decide +kernel) rfl
theorem tb_84 : Cond.fieldLinkNest "StretchedCarpet$Carpet" 54 "StretchedCarpet$Room" "rollBroad" "I" "StretchedCarpet" ∈ NB := nb_of (i := 84) (by decide +kernel) rfl
theorem tb_85 : Cond.fieldLinkNest "StretchedCarpet" 236 "StretchedCarpet$Room" "rollBroad" "I" "StretchedCarpet" ∈ NB := nb_of (i := 85) (by decide +kernel) rfl
theorem tb_86 : Cond.fieldLinkNest "StretchedCarpet" 82 "StretchedCarpet$Room" "rollLong" "I" "StretchedCarpet" ∈ NB := nb_of (i := 86) (by decide +kernel) rfl
theorem tb_87 : Cond.fieldLink "StretchedCarpet$Room" 40 "StretchedCarpet$Room" "rollLong" "I" ∈ TB := tb_of (i := 87) (by decide +kernel) rfl
theorem tb_88 : Cond.fieldLink "StretchedCarpet$Room" 43 "StretchedCarpet$Room" "over" "I" ∈ TB := tb_of (i := 88) (by decide +kernel) rfl
theorem tb_89 : Cond.fieldLink "StretchedCarpet$Room" 46 "StretchedCarpet$Room" "hookHold" "I" ∈ TB := tb_of (i := 89) (by decide +kernel) rfl
theorem tb_90 : Cond.fieldLinkNest "StretchedCarpet$Carpet" 103 "StretchedCarpet$Room" "hookHold" "I" "StretchedCarpet" ∈ NB := nb_of (i := 90) (by decide +kernel) rfl
theorem tb_91 : Cond.fieldLink "StretchedCarpet$Room" 49 "StretchedCarpet$Room" "kind" "I" ∈ TB := tb_of (i := 91) (by decide +kernel) rfl
theorem tb_92 : Cond.fieldLinkNest "StretchedCarpet$Carpet" 79 "StretchedCarpet$Room" "kind" "I" "StretchedCarpet" ∈ NB := nb_of (i := 92) (by decide +kernel) rfl
theorem tb_93 : Cond.fieldLinkNest "StretchedCarpet" 226 "StretchedCarpet$Room" "kind" "I" "StretchedCarpet" ∈ NB := nb_of (i := 93) (by decide +kernel) rfl
theorem tb_94 : Cond.fieldLink "StretchedCarpet$Room" 52 "StretchedCarpet$Room" "gives" "I" ∈ TB := tb_of (i := 94) (by decide +kernel) rfl
theorem tb_95 : Cond.fieldLinkNest "StretchedCarpet$Carpet" 82 "StretchedCarpet$Room" "gives" "I" "StretchedCarpet" ∈ NB := nb_of (i := 95) (by decide +kernel) rfl
theorem tb_96 : Cond.fieldLinkNest "StretchedCarpet" 220 "StretchedCarpet$Room" "gives" "I" "StretchedCarpet" ∈ NB := nb_of (i := 96) (by decide +kernel) rfl
theorem tb_124 : Cond.arrayClass .char ∈ TB := tb_of (i := 124) (by decide +kernel) rfl
theorem tb_125 : Cond.arrayClass .int ∈ TB := tb_of (i := 125) (by decide +kernel) rfl
theorem tb_126 : Cond.classLink "StretchedCarpet" 23 "StretchedCarpet$Carpet" ∈ TB := tb_of (i := 126) (by decide +kernel) rfl
theorem tb_127 : Cond.instantiable "StretchedCarpet$Carpet" 8 ∈ TB := tb_of (i := 127) (by decide +kernel) rfl
theorem tb_128 : Cond.methodLink "StretchedCarpet" 25 ⟨"StretchedCarpet$Carpet", "<init>", "()V"⟩ ∈ TB := tb_of (i := 128) (by decide +kernel) rfl
theorem tb_129 : Cond.instanceMethod ⟨"StretchedCarpet$Carpet", "<init>", "()V"⟩ ∈ TB := tb_of (i := 129) (by decide +kernel) rfl
theorem tb_130 : Cond.code ⟨"StretchedCarpet$Carpet", "<init>", "()V"⟩ prog_2_method_1_code 1 (Option.none : Option Jvm.ClassFile.FieldType) ∈ TB := tb_of (i := 130) (by decide +kernel) rfl
theorem tb_131 : Cond.methodLink "StretchedCarpet$Carpet" 3 ⟨"java/lang/Object", "<init>", "()V"⟩ ∈ TB := tb_of (i := 131) (by decide +kernel) rfl
theorem tb_132 : Cond.methodLink "StretchedCarpet$Carpet" 18 ⟨"StretchedCarpet$Carpet", "clear", "(I)V"⟩ ∈ TB := tb_of (i := 132) (by decide +kernel) rfl
theorem tb_133 : Cond.instanceMethod ⟨"StretchedCarpet$Carpet", "clear", "(I)V"⟩ ∈ TB := tb_of (i := 133) (by decide +kernel) rfl
theorem tb_134 : Cond.selects "StretchedCarpet$Carpet" ⟨"StretchedCarpet$Carpet", "clear", "(I)V"⟩ ⟨"StretchedCarpet$Carpet", "clear", "(I)V"⟩ ∈ TB := tb_of (i := 134) (by decide +kernel) rfl
theorem tb_135 : Cond.code ⟨"StretchedCarpet$Carpet", "clear", "(I)V"⟩ prog_2_method_2_code 3 (Option.none : Option Jvm.ClassFile.FieldType) ∈ TB := tb_of (i := 135) (by decide +kernel) rfl
theorem tb_136 : Cond.methodLinkNest "StretchedCarpet$Carpet" 22 ⟨"StretchedCarpet", "put", "([III)V"⟩ "StretchedCarpet" ∈ NB := nb_of (i := 136) (by decide +kernel) rfl
theorem tb_137 : Cond.static ⟨"StretchedCarpet", "put", "([III)V"⟩ ∈ TB := tb_of (i := 137) (by decide +kernel) rfl
theorem tb_138 : Cond.code ⟨"StretchedCarpet", "put", "([III)V"⟩ prog_1_method_32_code 3 (Option.none : Option Jvm.ClassFile.FieldType) ∈ TB := tb_of (i := 138) (by decide +kernel) rfl
theorem tb_139 : Cond.fieldLink "StretchedCarpet$Carpet" 9 "StretchedCarpet$Carpet" "breadths" "[I" ∈ TB := tb_of (i := 139) (by decide +kernel) rfl
theorem tb_140 : Cond.fieldLink "StretchedCarpet$Carpet" 15 "StretchedCarpet$Carpet" "tightnesses" "[I" ∈ TB := tb_of (i := 140) (by decide +kernel) rfl
theorem tb_141 : Cond.fieldLink "StretchedCarpet$Carpet" 26 "StretchedCarpet$Carpet" "lengths" "I" ∈ TB := tb_of (i := 141) (by decide +kernel) rfl
theorem tb_142 : Cond.fieldLinkNest "StretchedCarpet" 281 "StretchedCarpet$Carpet" "lengths" "I" "StretchedCarpet" ∈ NB := nb_of (i := 142) (by decide +kernel) rfl
theorem tb_143 : Cond.fieldLinkNest "StretchedCarpet$CutPlan" 25 "StretchedCarpet$Carpet" "covered" "I" "StretchedCarpet" ∈ NB := nb_of (i := 143) (by decide +kernel) rfl
theorem tb_144 : Cond.fieldLink "StretchedCarpet$Carpet" 30 "StretchedCarpet$Carpet" "covered" "I" ∈ TB := tb_of (i := 144) (by decide +kernel) rfl
theorem tb_145 : Cond.fieldLink "StretchedCarpet$Carpet" 33 "StretchedCarpet$Carpet" "rollLeft" "I" ∈ TB := tb_of (i := 145) (by decide +kernel) rfl
theorem tb_146 : Cond.fieldLinkNest "StretchedCarpet$CutPlan" 60 "StretchedCarpet$Carpet" "rollLeft" "I" "StretchedCarpet" ∈ NB := nb_of (i := 146) (by decide +kernel) rfl
theorem tb_147 : Cond.fieldLinkNest "StretchedCarpet" 239 "StretchedCarpet$Carpet" "rollLeft" "I" "StretchedCarpet" ∈ NB := nb_of (i := 147) (by decide +kernel) rfl
theorem tb_148 : Cond.fieldLink "StretchedCarpet$Carpet" 36 "StretchedCarpet$Carpet" "hooked" "I" ∈ TB := tb_of (i := 148) (by decide +kernel) rfl
theorem tb_149 : Cond.fieldLinkNest "StretchedCarpet$HookOrder" 43 "StretchedCarpet$Carpet" "hooked" "I" "StretchedCarpet" ∈ NB := nb_of (i := 149) (by decide +kernel) rfl
theorem tb_150 : Cond.fieldLinkNest "StretchedCarpet" 287 "StretchedCarpet$Carpet" "hooked" "I" "StretchedCarpet" ∈ NB := nb_of (i := 150) (by decide +kernel) rfl
theorem tb_151 : Cond.fieldLink "StretchedCarpet$Carpet" 39 "StretchedCarpet$Carpet" "torn" "I" ∈ TB := tb_of (i := 151) (by decide +kernel) rfl
theorem tb_152 : Cond.fieldLinkNest "StretchedCarpet" 266 "StretchedCarpet$Carpet" "torn" "I" "StretchedCarpet" ∈ NB := nb_of (i := 152) (by decide +kernel) rfl
theorem tb_153 : Cond.fieldLink "StretchedCarpet$Carpet" 42 "StretchedCarpet$Carpet" "month" "I" ∈ TB := tb_of (i := 153) (by decide +kernel) rfl
theorem tb_154 : Cond.fieldLinkNest "StretchedCarpet" 163 "StretchedCarpet$Carpet" "month" "I" "StretchedCarpet" ∈ NB := nb_of (i := 154) (by decide +kernel) rfl
theorem tb_172 : Cond.classLink "StretchedCarpet" 33 "StretchedCarpet$Shelf" ∈ TB := tb_of (i := 172) (by decide +kernel) rfl
theorem tb_173 : Cond.instantiable "StretchedCarpet$Shelf" 3 ∈ TB := tb_of (i := 173) (by decide +kernel) rfl
theorem tb_174 : Cond.methodLink "StretchedCarpet" 35 ⟨"StretchedCarpet$Shelf", "<init>", "(I)V"⟩ ∈ TB := tb_of (i := 174) (by decide +kernel) rfl
theorem tb_175 : Cond.instanceMethod ⟨"StretchedCarpet$Shelf", "<init>", "(I)V"⟩ ∈ TB := tb_of (i := 175) (by decide +kernel) rfl
theorem tb_176 : Cond.code ⟨"StretchedCarpet$Shelf", "<init>", "(I)V"⟩ prog_6_method_1_code 3 (Option.none : Option Jvm.ClassFile.FieldType) ∈ TB := tb_of (i := 176) (by decide +kernel) rfl
theorem tb_177 : Cond.methodLink "StretchedCarpet$Shelf" 1 ⟨"java/lang/Object", "<init>", "()V"⟩ ∈ TB := tb_of (i := 177) (by decide +kernel) rfl
theorem tb_178 : Cond.methodLink "StretchedCarpet$Shelf" 7 ⟨"java/lang/Math", "max", "(II)I"⟩ ∈ TB := tb_of (i := 178) (by decide +kernel) rfl
theorem tb_179 : Cond.static ⟨"java/lang/Math", "max", "(II)I"⟩ ∈ TB := tb_of (i := 179) (by decide +kernel) rfl
theorem tb_180 : Cond.code ⟨"java/lang/Math", "max", "(II)I"⟩ prog_11_method_65_code 2 (Option.some .int) ∈ TB := tb_of (i := 180) (by decide +kernel) rfl
theorem tb_184 : Cond.fieldLink "StretchedCarpet$Shelf" 15 "StretchedCarpet$Shelf" "rows" "[LStretchedCarpet$Carpet;" ∈ TB := tb_of (i := 184) (by decide +kernel) rfl
theorem tb_185 : Cond.fieldLink "StretchedCarpet$Shelf" 22 "StretchedCarpet$Shelf" "next" "I" ∈ TB := tb_of (i := 185) (by decide +kernel) rfl
theorem tb_186 : Cond.fieldLink "StretchedCarpet$Shelf" 26 "StretchedCarpet$Shelf" "size" "I" ∈ TB := tb_of (i := 186) (by decide +kernel) rfl
theorem tb_187 : Cond.fieldLinkNest "StretchedCarpet" 174 "StretchedCarpet$Shelf" "size" "I" "StretchedCarpet" ∈ NB := nb_of (i := 187) (by decide +kernel) rfl
theorem tb_195 : Cond.classLink "StretchedCarpet" 45 "StretchedCarpet$Sightings" ∈ TB := tb_of (i := 195) (by decide +kernel) rfl
theorem tb_196 : Cond.instantiable "StretchedCarpet$Sightings" 3 ∈ TB := tb_of (i := 196) (by decide +kernel) rfl
theorem tb_197 : Cond.methodLink "StretchedCarpet" 47 ⟨"StretchedCarpet$Sightings", "<init>", "()V"⟩ ∈ TB := tb_of (i := 197) (by decide +kernel) rfl
theorem tb_198 : Cond.instanceMethod ⟨"StretchedCarpet$Sightings", "<init>", "()V"⟩ ∈ TB := tb_of (i := 198) (by decide +kernel) rfl
theorem tb_199 : Cond.code ⟨"StretchedCarpet$Sightings", "<init>", "()V"⟩ prog_7_method_1_code 1 (Option.none : Option Jvm.ClassFile.FieldType) ∈ TB := tb_of (i := 199) (by decide +kernel) rfl
theorem tb_200 : Cond.methodLink "StretchedCarpet$Sightings" 3 ⟨"java/lang/Object", "<init>", "()V"⟩ ∈ TB := tb_of (i := 200) (by decide +kernel) rfl
theorem tb_201 : Cond.methodLink "StretchedCarpet$Sightings" 18 ⟨"StretchedCarpet$Sightings", "clear", "()V"⟩ ∈ TB := tb_of (i := 201) (by decide +kernel) rfl
theorem tb_202 : Cond.instanceMethod ⟨"StretchedCarpet$Sightings", "clear", "()V"⟩ ∈ TB := tb_of (i := 202) (by decide +kernel) rfl
theorem tb_203 : Cond.selects "StretchedCarpet$Sightings" ⟨"StretchedCarpet$Sightings", "clear", "()V"⟩ ⟨"StretchedCarpet$Sightings", "clear", "()V"⟩ ∈ TB := tb_of (i := 203) (by decide +kernel) rfl
theorem tb_204 : Cond.code ⟨"StretchedCarpet$Sightings", "clear", "()V"⟩ prog_7_method_2_code 1 (Option.none : Option Jvm.ClassFile.FieldType) ∈ TB := tb_of (i := 204) (by decide +kernel) rfl
theorem tb_205 : Cond.fieldLink "StretchedCarpet$Sightings" 11 "StretchedCarpet$Sightings" "kicks" "[I" ∈ TB := tb_of (i := 205) (by decide +kernel) rfl
theorem tb_206 : Cond.fieldLink "StretchedCarpet$Sightings" 15 "StretchedCarpet$Sightings" "tightnesses" "[I" ∈ TB := tb_of (i := 206) (by decide +kernel) rfl
theorem tb_207 : Cond.fieldLink "StretchedCarpet$Sightings" 21 "StretchedCarpet$Sightings" "size" "I" ∈ TB := tb_of (i := 207) (by decide +kernel) rfl
theorem tb_208 : Cond.fieldLinkNest "StretchedCarpet" 219 "StretchedCarpet$Sightings" "size" "I" "StretchedCarpet" ∈ NB := nb_of (i := 208) (by decide +kernel) rfl
theorem tb_216 : Cond.classLink "StretchedCarpet" 52 "StretchedCarpet$CutPlan" ∈ TB := tb_of (i := 216) (by decide +kernel) rfl
theorem tb_217 : Cond.instantiable "StretchedCarpet$CutPlan" 8 ∈ TB := tb_of (i := 217) (by decide +kernel) rfl
theorem tb_218 : Cond.methodLink "StretchedCarpet" 54 ⟨"StretchedCarpet$CutPlan", "<init>", "()V"⟩ ∈ TB := tb_of (i := 218) (by decide +kernel) rfl
theorem tb_219 : Cond.instanceMethod ⟨"StretchedCarpet$CutPlan", "<init>", "()V"⟩ ∈ TB := tb_of (i := 219) (by decide +kernel) rfl
theorem tb_220 : Cond.code ⟨"StretchedCarpet$CutPlan", "<init>", "()V"⟩ prog_3_method_1_code 1 (Option.none : Option Jvm.ClassFile.FieldType) ∈ TB := tb_of (i := 220) (by decide +kernel) rfl
theorem tb_221 : Cond.methodLink "StretchedCarpet$CutPlan" 3 ⟨"java/lang/Object", "<init>", "()V"⟩ ∈ TB := tb_of (i := 221) (by decide +kernel) rfl
theorem tb_222 : Cond.fieldLink "StretchedCarpet$CutPlan" 9 "StretchedCarpet$CutPlan" "cutFrom" "[I" ∈ TB := tb_of (i := 222) (by decide +kernel) rfl
theorem tb_223 : Cond.fieldLink "StretchedCarpet$CutPlan" 15 "StretchedCarpet$CutPlan" "seamsFrom" "[I" ∈ TB := tb_of (i := 223) (by decide +kernel) rfl
theorem tb_224 : Cond.fieldLink "StretchedCarpet$CutPlan" 18 "StretchedCarpet$CutPlan" "breadthFrom" "[I" ∈ TB := tb_of (i := 224) (by decide +kernel) rfl
theorem tb_225 : Cond.fieldLink "StretchedCarpet$CutPlan" 31 "StretchedCarpet$CutPlan" "start" "I" ∈ TB := tb_of (i := 225) (by decide +kernel) rfl
theorem tb_226 : Cond.fieldLink "StretchedCarpet$CutPlan" 39 "StretchedCarpet$CutPlan" "end" "I" ∈ TB := tb_of (i := 226) (by decide +kernel) rfl
theorem tb_227 : Cond.fieldLink "StretchedCarpet$CutPlan" 21 "StretchedCarpet$CutPlan" "does" "Z" ∈ TB := tb_of (i := 227) (by decide +kernel) rfl
theorem tb_228 : Cond.fieldLinkNest "StretchedCarpet" 181 "StretchedCarpet$CutPlan" "does" "Z" "StretchedCarpet" ∈ NB := nb_of (i := 228) (by decide +kernel) rfl
theorem tb_229 : Cond.fieldLink "StretchedCarpet$CutPlan" 54 "StretchedCarpet$CutPlan" "leastCut" "I" ∈ TB := tb_of (i := 229) (by decide +kernel) rfl
theorem tb_230 : Cond.fieldLinkNest "StretchedCarpet" 185 "StretchedCarpet$CutPlan" "leastCut" "I" "StretchedCarpet" ∈ NB := nb_of (i := 230) (by decide +kernel) rfl
theorem tb_231 : Cond.fieldLink "StretchedCarpet$CutPlan" 57 "StretchedCarpet$CutPlan" "leastSeams" "I" ∈ TB := tb_of (i := 231) (by decide +kernel) rfl
theorem tb_232 : Cond.fieldLinkNest "StretchedCarpet" 188 "StretchedCarpet$CutPlan" "leastSeams" "I" "StretchedCarpet" ∈ NB := nb_of (i := 232) (by decide +kernel) rfl
theorem tb_250 : Cond.classLink "StretchedCarpet" 59 "StretchedCarpet$HookOrder" ∈ TB := tb_of (i := 250) (by decide +kernel) rfl
theorem tb_251 : Cond.instantiable "StretchedCarpet$HookOrder" 3 ∈ TB := tb_of (i := 251) (by decide +kernel) rfl
theorem tb_252 : Cond.methodLink "StretchedCarpet" 61 ⟨"StretchedCarpet$HookOrder", "<init>", "()V"⟩ ∈ TB := tb_of (i := 252) (by decide +kernel) rfl
theorem tb_253 : Cond.instanceMethod ⟨"StretchedCarpet$HookOrder", "<init>", "()V"⟩ ∈ TB := tb_of (i := 253) (by decide +kernel) rfl
theorem tb_254 : Cond.code ⟨"StretchedCarpet$HookOrder", "<init>", "()V"⟩ prog_4_method_1_code 1 (Option.none : Option Jvm.ClassFile.FieldType) ∈ TB := tb_of (i := 254) (by decide +kernel) rfl
theorem tb_255 : Cond.methodLink "StretchedCarpet$HookOrder" 3 ⟨"java/lang/Object", "<init>", "()V"⟩ ∈ TB := tb_of (i := 255) (by decide +kernel) rfl
theorem tb_256 : Cond.fieldLink "StretchedCarpet$HookOrder" 15 "StretchedCarpet$HookOrder" "free" "I" ∈ TB := tb_of (i := 256) (by decide +kernel) rfl
theorem tb_257 : Cond.fieldLink "StretchedCarpet$HookOrder" 32 "StretchedCarpet$HookOrder" "bestCode" "I" ∈ TB := tb_of (i := 257) (by decide +kernel) rfl
theorem tb_258 : Cond.fieldLink "StretchedCarpet$HookOrder" 9 "StretchedCarpet$HookOrder" "leastKicks" "I" ∈ TB := tb_of (i := 258) (by decide +kernel) rfl
theorem tb_259 : Cond.fieldLinkNest "StretchedCarpet" 197 "StretchedCarpet$HookOrder" "leastKicks" "I" "StretchedCarpet" ∈ NB := nb_of (i := 259) (by decide +kernel) rfl
theorem tb_321 : Cond.methodLink "StretchedCarpet" 78 ⟨"StretchedCarpet$Room", "readText", "([CI)I"⟩ ∈ TB := tb_of (i := 321) (by decide +kernel) rfl
theorem tb_322 : Cond.instanceMethod ⟨"StretchedCarpet$Room", "readText", "([CI)I"⟩ ∈ TB := tb_of (i := 322) (by decide +kernel) rfl
theorem tb_323 : Cond.selects "StretchedCarpet$Room" ⟨"StretchedCarpet$Room", "readText", "([CI)I"⟩ ⟨"StretchedCarpet$Room", "readText", "([CI)I"⟩ ∈ TB := tb_of (i := 323) (by decide +kernel) rfl
theorem tb_324 : Cond.code ⟨"StretchedCarpet$Room", "readText", "([CI)I"⟩ prog_5_method_3_code 6 (Option.some .int) ∈ TB := tb_of (i := 324) (by decide +kernel) rfl
theorem tb_325 : Cond.methodLink "StretchedCarpet$Room" 55 ⟨"StretchedCarpet$Room", "readNumbers", "([CII)I"⟩ ∈ TB := tb_of (i := 325) (by decide +kernel) rfl
theorem tb_327 : Cond.instanceMethod ⟨"StretchedCarpet$Room", "readNumbers", "([CII)I"⟩ ∈ TB := tb_of (i := 327) (by decide +kernel) rfl
theorem tb_328 : Cond.code ⟨"StretchedCarpet$Room", "readNumbers", "([CII)I"⟩ prog_5_method_4_code 8 (Option.some .int) ∈ TB := tb_of (i := 328) (by decide +kernel) rfl
theorem tb_329 : Cond.methodLink "StretchedCarpet$Room" 59 ⟨"StretchedCarpet$Room", "letterAt", "([CII)I"⟩ ∈ TB := tb_of (i := 329) (by decide +kernel) rfl
theorem tb_330 : Cond.static ⟨"StretchedCarpet$Room", "letterAt", "([CII)I"⟩ ∈ TB := tb_of (i := 330) (by decide +kernel) rfl
theorem tb_331 : Cond.code ⟨"StretchedCarpet$Room", "letterAt", "([CII)I"⟩ prog_5_method_9_code 3 (Option.some .int) ∈ TB := tb_of (i := 331) (by decide +kernel) rfl
theorem tb_332 : Cond.methodLink "StretchedCarpet$Room" 66 ⟨"StretchedCarpet$Room", "numbersBehind", "(I)I"⟩ ∈ TB := tb_of (i := 332) (by decide +kernel) rfl
theorem tb_333 : Cond.static ⟨"StretchedCarpet$Room", "numbersBehind", "(I)I"⟩ ∈ TB := tb_of (i := 333) (by decide +kernel) rfl
theorem tb_334 : Cond.code ⟨"StretchedCarpet$Room", "numbersBehind", "(I)I"⟩ prog_5_method_5_code 1 (Option.some .int) ∈ TB := tb_of (i := 334) (by decide +kernel) rfl
theorem tb_335 : Cond.methodLink "StretchedCarpet$Room" 70 ⟨"StretchedCarpet$Room", "figuresAt", "([CII)I"⟩ ∈ TB := tb_of (i := 335) (by decide +kernel) rfl
theorem tb_336 : Cond.static ⟨"StretchedCarpet$Room", "figuresAt", "([CII)I"⟩ ∈ TB := tb_of (i := 336) (by decide +kernel) rfl
theorem tb_337 : Cond.code ⟨"StretchedCarpet$Room", "figuresAt", "([CII)I"⟩ prog_5_method_6_code 3 (Option.some .int) ∈ TB := tb_of (i := 337) (by decide +kernel) rfl
theorem tb_338 : Cond.methodLink "StretchedCarpet$Room" 81 ⟨"StretchedCarpet$Room", "isFigure", "(I)Z"⟩ ∈ TB := tb_of (i := 338) (by decide +kernel) rfl
theorem tb_339 : Cond.static ⟨"StretchedCarpet$Room", "isFigure", "(I)Z"⟩ ∈ TB := tb_of (i := 339) (by decide +kernel) rfl
theorem tb_340 : Cond.code ⟨"StretchedCarpet$Room", "isFigure", "(I)Z"⟩ prog_5_method_8_code 1 (Option.some .boolean) ∈ TB := tb_of (i := 340) (by decide +kernel) rfl
theorem tb_341 : Cond.methodLinkNest "StretchedCarpet$Room" 84 ⟨"StretchedCarpet", "within", "(III)Z"⟩ "StretchedCarpet" ∈ NB := nb_of (i := 341) (by decide +kernel) rfl
theorem tb_342 : Cond.static ⟨"StretchedCarpet", "within", "(III)Z"⟩ ∈ TB := tb_of (i := 342) (by decide +kernel) rfl
theorem tb_343 : Cond.code ⟨"StretchedCarpet", "within", "(III)Z"⟩ prog_1_method_29_code 3 (Option.some .boolean) ∈ TB := tb_of (i := 343) (by decide +kernel) rfl
theorem tb_344 : Cond.methodLink "StretchedCarpet$Room" 73 ⟨"StretchedCarpet$Room", "numberAt", "([CIII)I"⟩ ∈ TB := tb_of (i := 344) (by decide +kernel) rfl
theorem tb_345 : Cond.static ⟨"StretchedCarpet$Room", "numberAt", "([CIII)I"⟩ ∈ TB := tb_of (i := 345) (by decide +kernel) rfl
theorem tb_346 : Cond.code ⟨"StretchedCarpet$Room", "numberAt", "([CIII)I"⟩ prog_5_method_7_code 6 (Option.some .int) ∈ TB := tb_of (i := 346) (by decide +kernel) rfl
theorem tb_347 : Cond.methodLinkNest "StretchedCarpet$Room" 77 ⟨"StretchedCarpet", "put", "([III)V"⟩ "StretchedCarpet" ∈ NB := nb_of (i := 347) (by decide +kernel) rfl
theorem tb_348 : Cond.methodLink "StretchedCarpet$Room" 62 ⟨"StretchedCarpet$Room", "takeItem", "(I)Z"⟩ ∈ TB := tb_of (i := 348) (by decide +kernel) rfl
theorem tb_350 : Cond.instanceMethod ⟨"StretchedCarpet$Room", "takeItem", "(I)Z"⟩ ∈ TB := tb_of (i := 350) (by decide +kernel) rfl
theorem tb_351 : Cond.code ⟨"StretchedCarpet$Room", "takeItem", "(I)Z"⟩ prog_5_method_10_code 4 (Option.some .boolean) ∈ TB := tb_of (i := 351) (by decide +kernel) rfl
theorem tb_352 : Cond.methodLinkNest "StretchedCarpet$Room" 88 ⟨"StretchedCarpet", "at", "([II)I"⟩ "StretchedCarpet" ∈ NB := nb_of (i := 352) (by decide +kernel) rfl
theorem tb_353 : Cond.static ⟨"StretchedCarpet", "at", "([II)I"⟩ ∈ TB := tb_of (i := 353) (by decide +kernel) rfl
theorem tb_354 : Cond.code ⟨"StretchedCarpet", "at", "([II)I"⟩ prog_1_method_31_code 2 (Option.some .int) ∈ TB := tb_of (i := 354) (by decide +kernel) rfl
theorem tb_355 : Cond.methodLink "StretchedCarpet$Room" 92 ⟨"StretchedCarpet$Room", "takeStrip", "(III)Z"⟩ ∈ TB := tb_of (i := 355) (by decide +kernel) rfl
theorem tb_357 : Cond.instanceMethod ⟨"StretchedCarpet$Room", "takeStrip", "(III)Z"⟩ ∈ TB := tb_of (i := 357) (by decide +kernel) rfl
theorem tb_358 : Cond.code ⟨"StretchedCarpet$Room", "takeStrip", "(III)Z"⟩ prog_5_method_11_code 4 (Option.some .boolean) ∈ TB := tb_of (i := 358) (by decide +kernel) rfl
theorem tb_359 : Cond.methodLink "StretchedCarpet$Room" 95 ⟨"StretchedCarpet$Room", "takeDamp", "(I)Z"⟩ ∈ TB := tb_of (i := 359) (by decide +kernel) rfl
theorem tb_361 : Cond.instanceMethod ⟨"StretchedCarpet$Room", "takeDamp", "(I)Z"⟩ ∈ TB := tb_of (i := 361) (by decide +kernel) rfl
theorem tb_362 : Cond.code ⟨"StretchedCarpet$Room", "takeDamp", "(I)Z"⟩ prog_5_method_12_code 2 (Option.some .boolean) ∈ TB := tb_of (i := 362) (by decide +kernel) rfl
theorem tb_363 : Cond.methodLink "StretchedCarpet" 86 ⟨"StretchedCarpet$Carpet", "clear", "(I)V"⟩ ∈ TB := tb_of (i := 363) (by decide +kernel) rfl
theorem tb_364 : Cond.fieldLink "StretchedCarpet" 9 "StretchedCarpet" "text" "[C" ∈ TB := tb_of (i := 364) (by decide +kernel) rfl
theorem tb_365 : Cond.fieldLink "StretchedCarpet" 93 "StretchedCarpet" "letters" "I" ∈ TB := tb_of (i := 365) (by decide +kernel) rfl
theorem tb_366 : Cond.fieldLink "StretchedCarpet" 16 "StretchedCarpet" "room" "LStretchedCarpet$Room;" ∈ TB := tb_of (i := 366) (by decide +kernel) rfl
theorem tb_367 : Cond.fieldLink "StretchedCarpet" 20 "StretchedCarpet" "draft" "LStretchedCarpet$Room;" ∈ TB := tb_of (i := 367) (by decide +kernel) rfl
theorem tb_368 : Cond.fieldLink "StretchedCarpet" 26 "StretchedCarpet" "carpet" "LStretchedCarpet$Carpet;" ∈ TB := tb_of (i := 368) (by decide +kernel) rfl
theorem tb_369 : Cond.fieldLink "StretchedCarpet" 30 "StretchedCarpet" "trial" "LStretchedCarpet$Carpet;" ∈ TB := tb_of (i := 369) (by decide +kernel) rfl
theorem tb_370 : Cond.fieldLink "StretchedCarpet" 38 "StretchedCarpet" "undoable" "LStretchedCarpet$Shelf;" ∈ TB := tb_of (i := 370) (by decide +kernel) rfl
theorem tb_371 : Cond.fieldLink "StretchedCarpet" 42 "StretchedCarpet" "kept" "LStretchedCarpet$Shelf;" ∈ TB := tb_of (i := 371) (by decide +kernel) rfl
theorem tb_372 : Cond.fieldLink "StretchedCarpet" 48 "StretchedCarpet" "sightings" "LStretchedCarpet$Sightings;" ∈ TB := tb_of (i := 372) (by decide +kernel) rfl
theorem tb_373 : Cond.fieldLink "StretchedCarpet" 55 "StretchedCarpet" "cutPlan" "LStretchedCarpet$CutPlan;" ∈ TB := tb_of (i := 373) (by decide +kernel) rfl
theorem tb_374 : Cond.fieldLink "StretchedCarpet" 62 "StretchedCarpet" "hookOrder" "LStretchedCarpet$HookOrder;" ∈ TB := tb_of (i := 374) (by decide +kernel) rfl
theorem tb_399 : Cond.methodLink "StretchedCarpetLaw" 13 ⟨"StretchedCarpet", "write", "(I)I"⟩ ∈ TB := tb_of (i := 399) (by decide +kernel) rfl
theorem tb_400 : Cond.instanceMethod ⟨"StretchedCarpet", "write", "(I)I"⟩ ∈ TB := tb_of (i := 400) (by decide +kernel) rfl
theorem tb_401 : Cond.selects "StretchedCarpet" ⟨"StretchedCarpet", "write", "(I)I"⟩ ⟨"StretchedCarpet", "write", "(I)I"⟩ ∈ TB := tb_of (i := 401) (by decide +kernel) rfl
theorem tb_402 : Cond.code ⟨"StretchedCarpet", "write", "(I)I"⟩ prog_1_method_2_code 2 (Option.some .int) ∈ TB := tb_of (i := 402) (by decide +kernel) rfl
theorem tb_403 : Cond.methodLink "StretchedCarpet" 89 ⟨"StretchedCarpet", "within", "(III)Z"⟩ ∈ TB := tb_of (i := 403) (by decide +kernel) rfl
theorem tb_404 : Cond.methodLink "StretchedCarpetLaw" 18 ⟨"StretchedCarpet", "wipe", "()I"⟩ ∈ TB := tb_of (i := 404) (by decide +kernel) rfl
theorem tb_405 : Cond.instanceMethod ⟨"StretchedCarpet", "wipe", "()I"⟩ ∈ TB := tb_of (i := 405) (by decide +kernel) rfl
theorem tb_406 : Cond.selects "StretchedCarpet" ⟨"StretchedCarpet", "wipe", "()I"⟩ ⟨"StretchedCarpet", "wipe", "()I"⟩ ∈ TB := tb_of (i := 406) (by decide +kernel) rfl
theorem tb_407 : Cond.code ⟨"StretchedCarpet", "wipe", "()I"⟩ prog_1_method_3_code 2 (Option.some .int) ∈ TB := tb_of (i := 407) (by decide +kernel) rfl
theorem tb_408 : Cond.methodLink "StretchedCarpetLaw" 23 ⟨"StretchedCarpet", "fault", "()I"⟩ ∈ TB := tb_of (i := 408) (by decide +kernel) rfl
theorem tb_409 : Cond.instanceMethod ⟨"StretchedCarpet", "fault", "()I"⟩ ∈ TB := tb_of (i := 409) (by decide +kernel) rfl
theorem tb_410 : Cond.selects "StretchedCarpet" ⟨"StretchedCarpet", "fault", "()I"⟩ ⟨"StretchedCarpet", "fault", "()I"⟩ ∈ TB := tb_of (i := 410) (by decide +kernel) rfl
theorem tb_411 : Cond.code ⟨"StretchedCarpet", "fault", "()I"⟩ prog_1_method_4_code 1 (Option.some .int) ∈ TB := tb_of (i := 411) (by decide +kernel) rfl
theorem tb_412 : Cond.methodLink "StretchedCarpetLaw" 27 ⟨"StretchedCarpet", "lay", "()I"⟩ ∈ TB := tb_of (i := 412) (by decide +kernel) rfl
theorem tb_413 : Cond.instanceMethod ⟨"StretchedCarpet", "lay", "()I"⟩ ∈ TB := tb_of (i := 413) (by decide +kernel) rfl
theorem tb_414 : Cond.selects "StretchedCarpet" ⟨"StretchedCarpet", "lay", "()I"⟩ ⟨"StretchedCarpet", "lay", "()I"⟩ ∈ TB := tb_of (i := 414) (by decide +kernel) rfl
theorem tb_415 : Cond.code ⟨"StretchedCarpet", "lay", "()I"⟩ prog_1_method_5_code 2 (Option.some .int) ∈ TB := tb_of (i := 415) (by decide +kernel) rfl
theorem tb_416 : Cond.methodLink "StretchedCarpet" 99 ⟨"StretchedCarpet$Shelf", "clear", "()V"⟩ ∈ TB := tb_of (i := 416) (by decide +kernel) rfl
theorem tb_417 : Cond.instanceMethod ⟨"StretchedCarpet$Shelf", "clear", "()V"⟩ ∈ TB := tb_of (i := 417) (by decide +kernel) rfl
theorem tb_418 : Cond.selects "StretchedCarpet$Shelf" ⟨"StretchedCarpet$Shelf", "clear", "()V"⟩ ⟨"StretchedCarpet$Shelf", "clear", "()V"⟩ ∈ TB := tb_of (i := 418) (by decide +kernel) rfl
theorem tb_419 : Cond.code ⟨"StretchedCarpet$Shelf", "clear", "()V"⟩ prog_6_method_2_code 1 (Option.none : Option Jvm.ClassFile.FieldType) ∈ TB := tb_of (i := 419) (by decide +kernel) rfl
theorem tb_420 : Cond.methodLink "StretchedCarpet" 101 ⟨"StretchedCarpet$Sightings", "clear", "()V"⟩ ∈ TB := tb_of (i := 420) (by decide +kernel) rfl
theorem tb_421 : Cond.methodLink "StretchedCarpetLaw" 31 ⟨"StretchedCarpet", "strip", "(II)I"⟩ ∈ TB := tb_of (i := 421) (by decide +kernel) rfl
theorem tb_422 : Cond.instanceMethod ⟨"StretchedCarpet", "strip", "(II)I"⟩ ∈ TB := tb_of (i := 422) (by decide +kernel) rfl
theorem tb_423 : Cond.selects "StretchedCarpet" ⟨"StretchedCarpet", "strip", "(II)I"⟩ ⟨"StretchedCarpet", "strip", "(II)I"⟩ ∈ TB := tb_of (i := 423) (by decide +kernel) rfl
theorem tb_424 : Cond.code ⟨"StretchedCarpet", "strip", "(II)I"⟩ prog_1_method_6_code 3 (Option.some .int) ∈ TB := tb_of (i := 424) (by decide +kernel) rfl
theorem tb_425 : Cond.methodLink "StretchedCarpet" 102 ⟨"StretchedCarpet$Room", "lengthOfStrip", "(I)I"⟩ ∈ TB := tb_of (i := 425) (by decide +kernel) rfl
theorem tb_426 : Cond.instanceMethod ⟨"StretchedCarpet$Room", "lengthOfStrip", "(I)I"⟩ ∈ TB := tb_of (i := 426) (by decide +kernel) rfl
theorem tb_427 : Cond.selects "StretchedCarpet$Room" ⟨"StretchedCarpet$Room", "lengthOfStrip", "(I)I"⟩ ⟨"StretchedCarpet$Room", "lengthOfStrip", "(I)I"⟩ ∈ TB := tb_of (i := 427) (by decide +kernel) rfl
theorem tb_428 : Cond.code ⟨"StretchedCarpet$Room", "lengthOfStrip", "(I)I"⟩ prog_5_method_13_code 2 (Option.some .int) ∈ TB := tb_of (i := 428) (by decide +kernel) rfl
theorem tb_429 : Cond.methodLink "StretchedCarpet" 106 ⟨"StretchedCarpet$Room", "lightAt", "(I)I"⟩ ∈ TB := tb_of (i := 429) (by decide +kernel) rfl
theorem tb_430 : Cond.instanceMethod ⟨"StretchedCarpet$Room", "lightAt", "(I)I"⟩ ∈ TB := tb_of (i := 430) (by decide +kernel) rfl
theorem tb_431 : Cond.selects "StretchedCarpet$Room" ⟨"StretchedCarpet$Room", "lightAt", "(I)I"⟩ ⟨"StretchedCarpet$Room", "lightAt", "(I)I"⟩ ∈ TB := tb_of (i := 431) (by decide +kernel) rfl
theorem tb_432 : Cond.code ⟨"StretchedCarpet$Room", "lightAt", "(I)I"⟩ prog_5_method_14_code 2 (Option.some .int) ∈ TB := tb_of (i := 432) (by decide +kernel) rfl
theorem tb_433 : Cond.methodLink "StretchedCarpet" 109 ⟨"StretchedCarpet$Room", "treadAt", "(I)I"⟩ ∈ TB := tb_of (i := 433) (by decide +kernel) rfl
theorem tb_434 : Cond.instanceMethod ⟨"StretchedCarpet$Room", "treadAt", "(I)I"⟩ ∈ TB := tb_of (i := 434) (by decide +kernel) rfl
theorem tb_435 : Cond.selects "StretchedCarpet$Room" ⟨"StretchedCarpet$Room", "treadAt", "(I)I"⟩ ⟨"StretchedCarpet$Room", "treadAt", "(I)I"⟩ ∈ TB := tb_of (i := 435) (by decide +kernel) rfl
theorem tb_436 : Cond.code ⟨"StretchedCarpet$Room", "treadAt", "(I)I"⟩ prog_5_method_15_code 2 (Option.some .int) ∈ TB := tb_of (i := 436) (by decide +kernel) rfl
theorem tb_437 : Cond.methodLink "StretchedCarpet" 112 ⟨"StretchedCarpet$Carpet", "lengthOver", "(I)I"⟩ ∈ TB := tb_of (i := 437) (by decide +kernel) rfl
theorem tb_438 : Cond.instanceMethod ⟨"StretchedCarpet$Carpet", "lengthOver", "(I)I"⟩ ∈ TB := tb_of (i := 438) (by decide +kernel) rfl
theorem tb_439 : Cond.selects "StretchedCarpet$Carpet" ⟨"StretchedCarpet$Carpet", "lengthOver", "(I)I"⟩ ⟨"StretchedCarpet$Carpet", "lengthOver", "(I)I"⟩ ∈ TB := tb_of (i := 439) (by decide +kernel) rfl
theorem tb_440 : Cond.code ⟨"StretchedCarpet$Carpet", "lengthOver", "(I)I"⟩ prog_2_method_7_code 4 (Option.some .int) ∈ TB := tb_of (i := 440) (by decide +kernel) rfl
theorem tb_441 : Cond.methodLinkNest "StretchedCarpet$Carpet" 61 ⟨"StretchedCarpet", "at", "([II)I"⟩ "StretchedCarpet" ∈ NB := nb_of (i := 441) (by decide +kernel) rfl
theorem tb_442 : Cond.methodLink "StretchedCarpet" 115 ⟨"StretchedCarpet$Carpet", "isSeamAt", "(I)Z"⟩ ∈ TB := tb_of (i := 442) (by decide +kernel) rfl
theorem tb_443 : Cond.instanceMethod ⟨"StretchedCarpet$Carpet", "isSeamAt", "(I)Z"⟩ ∈ TB := tb_of (i := 443) (by decide +kernel) rfl
theorem tb_444 : Cond.selects "StretchedCarpet$Carpet" ⟨"StretchedCarpet$Carpet", "isSeamAt", "(I)Z"⟩ ⟨"StretchedCarpet$Carpet", "isSeamAt", "(I)Z"⟩ ∈ TB := tb_of (i := 444) (by decide +kernel) rfl
theorem tb_445 : Cond.code ⟨"StretchedCarpet$Carpet", "isSeamAt", "(I)Z"⟩ prog_2_method_8_code 4 (Option.some .boolean) ∈ TB := tb_of (i := 445) (by decide +kernel) rfl
theorem tb_446 : Cond.methodLink "StretchedCarpet$Carpet" 65 ⟨"StretchedCarpet$Carpet", "lengthOver", "(I)I"⟩ ∈ TB := tb_of (i := 446) (by decide +kernel) rfl
theorem tb_447 : Cond.methodLink "StretchedCarpetLaw" 36 ⟨"StretchedCarpet", "wall", "(II)I"⟩ ∈ TB := tb_of (i := 447) (by decide +kernel) rfl
theorem tb_448 : Cond.instanceMethod ⟨"StretchedCarpet", "wall", "(II)I"⟩ ∈ TB := tb_of (i := 448) (by decide +kernel) rfl
theorem tb_449 : Cond.selects "StretchedCarpet" ⟨"StretchedCarpet", "wall", "(II)I"⟩ ⟨"StretchedCarpet", "wall", "(II)I"⟩ ∈ TB := tb_of (i := 449) (by decide +kernel) rfl
theorem tb_450 : Cond.code ⟨"StretchedCarpet", "wall", "(II)I"⟩ prog_1_method_7_code 3 (Option.some .int) ∈ TB := tb_of (i := 450) (by decide +kernel) rfl
theorem tb_451 : Cond.methodLink "StretchedCarpet" 119 ⟨"StretchedCarpet", "isWall", "(I)Z"⟩ ∈ TB := tb_of (i := 451) (by decide +kernel) rfl
theorem tb_452 : Cond.static ⟨"StretchedCarpet", "isWall", "(I)Z"⟩ ∈ TB := tb_of (i := 452) (by decide +kernel) rfl
theorem tb_453 : Cond.code ⟨"StretchedCarpet", "isWall", "(I)Z"⟩ prog_1_method_30_code 1 (Option.some .boolean) ∈ TB := tb_of (i := 453) (by decide +kernel) rfl
theorem tb_454 : Cond.methodLink "StretchedCarpet" 122 ⟨"StretchedCarpet$Carpet", "tightness", "(I)I"⟩ ∈ TB := tb_of (i := 454) (by decide +kernel) rfl
theorem tb_455 : Cond.instanceMethod ⟨"StretchedCarpet$Carpet", "tightness", "(I)I"⟩ ∈ TB := tb_of (i := 455) (by decide +kernel) rfl
theorem tb_456 : Cond.selects "StretchedCarpet$Carpet" ⟨"StretchedCarpet$Carpet", "tightness", "(I)I"⟩ ⟨"StretchedCarpet$Carpet", "tightness", "(I)I"⟩ ∈ TB := tb_of (i := 456) (by decide +kernel) rfl
theorem tb_457 : Cond.code ⟨"StretchedCarpet$Carpet", "tightness", "(I)I"⟩ prog_2_method_11_code 2 (Option.some .int) ∈ TB := tb_of (i := 457) (by decide +kernel) rfl
theorem tb_458 : Cond.methodLink "StretchedCarpet" 125 ⟨"StretchedCarpet$Carpet", "isHooked", "(I)Z"⟩ ∈ TB := tb_of (i := 458) (by decide +kernel) rfl
theorem tb_459 : Cond.instanceMethod ⟨"StretchedCarpet$Carpet", "isHooked", "(I)Z"⟩ ∈ TB := tb_of (i := 459) (by decide +kernel) rfl
theorem tb_460 : Cond.selects "StretchedCarpet$Carpet" ⟨"StretchedCarpet$Carpet", "isHooked", "(I)Z"⟩ ⟨"StretchedCarpet$Carpet", "isHooked", "(I)Z"⟩ ∈ TB := tb_of (i := 460) (by decide +kernel) rfl
theorem tb_461 : Cond.code ⟨"StretchedCarpet$Carpet", "isHooked", "(I)Z"⟩ prog_2_method_12_code 2 (Option.some .boolean) ∈ TB := tb_of (i := 461) (by decide +kernel) rfl
theorem tb_462 : Cond.methodLink "StretchedCarpet" 128 ⟨"StretchedCarpet$Carpet", "isTorn", "(I)Z"⟩ ∈ TB := tb_of (i := 462) (by decide +kernel) rfl
theorem tb_463 : Cond.instanceMethod ⟨"StretchedCarpet$Carpet", "isTorn", "(I)Z"⟩ ∈ TB := tb_of (i := 463) (by decide +kernel) rfl
theorem tb_464 : Cond.selects "StretchedCarpet$Carpet" ⟨"StretchedCarpet$Carpet", "isTorn", "(I)Z"⟩ ⟨"StretchedCarpet$Carpet", "isTorn", "(I)Z"⟩ ∈ TB := tb_of (i := 464) (by decide +kernel) rfl
theorem tb_465 : Cond.code ⟨"StretchedCarpet$Carpet", "isTorn", "(I)Z"⟩ prog_2_method_13_code 2 (Option.some .boolean) ∈ TB := tb_of (i := 465) (by decide +kernel) rfl
theorem tb_466 : Cond.methodLink "StretchedCarpet" 131 ⟨"StretchedCarpet$Carpet", "isWaving", "(I)Z"⟩ ∈ TB := tb_of (i := 466) (by decide +kernel) rfl
theorem tb_467 : Cond.instanceMethod ⟨"StretchedCarpet$Carpet", "isWaving", "(I)Z"⟩ ∈ TB := tb_of (i := 467) (by decide +kernel) rfl
theorem tb_468 : Cond.selects "StretchedCarpet$Carpet" ⟨"StretchedCarpet$Carpet", "isWaving", "(I)Z"⟩ ⟨"StretchedCarpet$Carpet", "isWaving", "(I)Z"⟩ ∈ TB := tb_of (i := 468) (by decide +kernel) rfl
theorem tb_469 : Cond.code ⟨"StretchedCarpet$Carpet", "isWaving", "(I)Z"⟩ prog_2_method_15_code 2 (Option.some .boolean) ∈ TB := tb_of (i := 469) (by decide +kernel) rfl
theorem tb_470 : Cond.methodLink "StretchedCarpet$Carpet" 69 ⟨"StretchedCarpet$Carpet", "isHooked", "(I)Z"⟩ ∈ TB := tb_of (i := 470) (by decide +kernel) rfl
theorem tb_471 : Cond.methodLink "StretchedCarpet$Carpet" 76 ⟨"StretchedCarpet$Carpet", "tightness", "(I)I"⟩ ∈ TB := tb_of (i := 471) (by decide +kernel) rfl
theorem tb_472 : Cond.methodLink "StretchedCarpetLaw" 40 ⟨"StretchedCarpet", "damp", "(I)I"⟩ ∈ TB := tb_of (i := 472) (by decide +kernel) rfl
theorem tb_473 : Cond.instanceMethod ⟨"StretchedCarpet", "damp", "(I)I"⟩ ∈ TB := tb_of (i := 473) (by decide +kernel) rfl
theorem tb_474 : Cond.selects "StretchedCarpet" ⟨"StretchedCarpet", "damp", "(I)I"⟩ ⟨"StretchedCarpet", "damp", "(I)I"⟩ ∈ TB := tb_of (i := 474) (by decide +kernel) rfl
theorem tb_475 : Cond.code ⟨"StretchedCarpet", "damp", "(I)I"⟩ prog_1_method_8_code 2 (Option.some .int) ∈ TB := tb_of (i := 475) (by decide +kernel) rfl
theorem tb_476 : Cond.methodLink "StretchedCarpet" 134 ⟨"StretchedCarpet$Room", "dampOf", "(I)I"⟩ ∈ TB := tb_of (i := 476) (by decide +kernel) rfl
theorem tb_477 : Cond.instanceMethod ⟨"StretchedCarpet$Room", "dampOf", "(I)I"⟩ ∈ TB := tb_of (i := 477) (by decide +kernel) rfl
theorem tb_478 : Cond.selects "StretchedCarpet$Room" ⟨"StretchedCarpet$Room", "dampOf", "(I)I"⟩ ⟨"StretchedCarpet$Room", "dampOf", "(I)I"⟩ ∈ TB := tb_of (i := 478) (by decide +kernel) rfl
theorem tb_479 : Cond.code ⟨"StretchedCarpet$Room", "dampOf", "(I)I"⟩ prog_5_method_16_code 2 (Option.some .int) ∈ TB := tb_of (i := 479) (by decide +kernel) rfl
theorem tb_480 : Cond.methodLink "StretchedCarpetLaw" 44 ⟨"StretchedCarpet", "cut", "(I)I"⟩ ∈ TB := tb_of (i := 480) (by decide +kernel) rfl
theorem tb_481 : Cond.instanceMethod ⟨"StretchedCarpet", "cut", "(I)I"⟩ ∈ TB := tb_of (i := 481) (by decide +kernel) rfl
theorem tb_482 : Cond.selects "StretchedCarpet" ⟨"StretchedCarpet", "cut", "(I)I"⟩ ⟨"StretchedCarpet", "cut", "(I)I"⟩ ∈ TB := tb_of (i := 482) (by decide +kernel) rfl
theorem tb_483 : Cond.code ⟨"StretchedCarpet", "cut", "(I)I"⟩ prog_1_method_9_code 2 (Option.some .int) ∈ TB := tb_of (i := 483) (by decide +kernel) rfl
theorem tb_484 : Cond.methodLink "StretchedCarpet" 137 ⟨"StretchedCarpet$Carpet", "canCut", "(LStretchedCarpet$Room;I)Z"⟩ ∈ TB := tb_of (i := 484) (by decide +kernel) rfl
theorem tb_485 : Cond.instanceMethod ⟨"StretchedCarpet$Carpet", "canCut", "(LStretchedCarpet$Room;I)Z"⟩ ∈ TB := tb_of (i := 485) (by decide +kernel) rfl
theorem tb_486 : Cond.selects "StretchedCarpet$Carpet" ⟨"StretchedCarpet$Carpet", "canCut", "(LStretchedCarpet$Room;I)Z"⟩ ⟨"StretchedCarpet$Carpet", "canCut", "(LStretchedCarpet$Room;I)Z"⟩ ∈ TB := tb_of (i := 486) (by decide +kernel) rfl
theorem tb_487 : Cond.code ⟨"StretchedCarpet$Carpet", "canCut", "(LStretchedCarpet$Room;I)Z"⟩ prog_2_method_5_code 3 (Option.some .boolean) ∈ TB := tb_of (i := 487) (by decide +kernel) rfl
theorem tb_488 : Cond.methodLink "StretchedCarpet$Carpet" 57 ⟨"StretchedCarpet$Room", "lengthFor", "(II)I"⟩ ∈ TB := tb_of (i := 488) (by decide +kernel) rfl
theorem tb_489 : Cond.instanceMethod ⟨"StretchedCarpet$Room", "lengthFor", "(II)I"⟩ ∈ TB := tb_of (i := 489) (by decide +kernel) rfl
theorem tb_490 : Cond.selects "StretchedCarpet$Room" ⟨"StretchedCarpet$Room", "lengthFor", "(II)I"⟩ ⟨"StretchedCarpet$Room", "lengthFor", "(II)I"⟩ ∈ TB := tb_of (i := 490) (by decide +kernel) rfl
theorem tb_491 : Cond.code ⟨"StretchedCarpet$Room", "lengthFor", "(II)I"⟩ prog_5_method_18_code 5 (Option.some .int) ∈ TB := tb_of (i := 491) (by decide +kernel) rfl
theorem tb_492 : Cond.methodLink "StretchedCarpet$Room" 101 ⟨"java/lang/Math", "max", "(II)I"⟩ ∈ TB := tb_of (i := 492) (by decide +kernel) rfl
theorem tb_493 : Cond.methodLink "StretchedCarpet" 141 ⟨"StretchedCarpet$Shelf", "push", "(LStretchedCarpet$Carpet;)V"⟩ ∈ TB := tb_of (i := 493) (by decide +kernel) rfl
theorem tb_494 : Cond.instanceMethod ⟨"StretchedCarpet$Shelf", "push", "(LStretchedCarpet$Carpet;)V"⟩ ∈ TB := tb_of (i := 494) (by decide +kernel) rfl
theorem tb_495 : Cond.selects "StretchedCarpet$Shelf" ⟨"StretchedCarpet$Shelf", "push", "(LStretchedCarpet$Carpet;)V"⟩ ⟨"StretchedCarpet$Shelf", "push", "(LStretchedCarpet$Carpet;)V"⟩ ∈ TB := tb_of (i := 495) (by decide +kernel) rfl
theorem tb_496 : Cond.code ⟨"StretchedCarpet$Shelf", "push", "(LStretchedCarpet$Carpet;)V"⟩ prog_6_method_5_code 3 (Option.none : Option Jvm.ClassFile.FieldType) ∈ TB := tb_of (i := 496) (by decide +kernel) rfl
theorem tb_497 : Cond.methodLink "StretchedCarpet$Shelf" 29 ⟨"StretchedCarpet$Shelf", "rowAt", "(I)LStretchedCarpet$Carpet;"⟩ ∈ TB := tb_of (i := 497) (by decide +kernel) rfl
theorem tb_499 : Cond.instanceMethod ⟨"StretchedCarpet$Shelf", "rowAt", "(I)LStretchedCarpet$Carpet;"⟩ ∈ TB := tb_of (i := 499) (by decide +kernel) rfl
theorem tb_500 : Cond.code ⟨"StretchedCarpet$Shelf", "rowAt", "(I)LStretchedCarpet$Carpet;"⟩ prog_6_method_4_code 2 (Option.some (.object "StretchedCarpet$Carpet")) ∈ TB := tb_of (i := 500) (by decide +kernel) rfl
theorem tb_501 : Cond.methodLink "StretchedCarpet$Shelf" 33 ⟨"StretchedCarpet$Carpet", "copyFrom", "(LStretchedCarpet$Carpet;)V"⟩ ∈ TB := tb_of (i := 501) (by decide +kernel) rfl
theorem tb_502 : Cond.instanceMethod ⟨"StretchedCarpet$Carpet", "copyFrom", "(LStretchedCarpet$Carpet;)V"⟩ ∈ TB := tb_of (i := 502) (by decide +kernel) rfl
theorem tb_503 : Cond.selects "StretchedCarpet$Carpet" ⟨"StretchedCarpet$Carpet", "copyFrom", "(LStretchedCarpet$Carpet;)V"⟩ ⟨"StretchedCarpet$Carpet", "copyFrom", "(LStretchedCarpet$Carpet;)V"⟩ ∈ TB := tb_of (i := 503) (by decide +kernel) rfl
theorem tb_504 : Cond.code ⟨"StretchedCarpet$Carpet", "copyFrom", "(LStretchedCarpet$Carpet;)V"⟩ prog_2_method_3_code 2 (Option.none : Option Jvm.ClassFile.FieldType) ∈ TB := tb_of (i := 504) (by decide +kernel) rfl
theorem tb_505 : Cond.methodLinkNest "StretchedCarpet$Carpet" 45 ⟨"StretchedCarpet", "copy", "([I[I)V"⟩ "StretchedCarpet" ∈ NB := nb_of (i := 505) (by decide +kernel) rfl
theorem tb_506 : Cond.static ⟨"StretchedCarpet", "copy", "([I[I)V"⟩ ∈ TB := tb_of (i := 506) (by decide +kernel) rfl
theorem tb_507 : Cond.code ⟨"StretchedCarpet", "copy", "([I[I)V"⟩ prog_1_method_33_code 3 (Option.none : Option Jvm.ClassFile.FieldType) ∈ TB := tb_of (i := 507) (by decide +kernel) rfl
theorem tb_508 : Cond.methodLink "StretchedCarpet$Shelf" 37 ⟨"java/lang/Math", "min", "(II)I"⟩ ∈ TB := tb_of (i := 508) (by decide +kernel) rfl
theorem tb_509 : Cond.static ⟨"java/lang/Math", "min", "(II)I"⟩ ∈ TB := tb_of (i := 509) (by decide +kernel) rfl
theorem tb_510 : Cond.code ⟨"java/lang/Math", "min", "(II)I"⟩ prog_11_method_69_code 2 (Option.some .int) ∈ TB := tb_of (i := 510) (by decide +kernel) rfl
theorem tb_511 : Cond.methodLink "StretchedCarpet" 145 ⟨"StretchedCarpet$Carpet", "cutFor", "(LStretchedCarpet$Room;I)I"⟩ ∈ TB := tb_of (i := 511) (by decide +kernel) rfl
theorem tb_512 : Cond.instanceMethod ⟨"StretchedCarpet$Carpet", "cutFor", "(LStretchedCarpet$Room;I)I"⟩ ∈ TB := tb_of (i := 512) (by decide +kernel) rfl
theorem tb_513 : Cond.selects "StretchedCarpet$Carpet" ⟨"StretchedCarpet$Carpet", "cutFor", "(LStretchedCarpet$Room;I)I"⟩ ⟨"StretchedCarpet$Carpet", "cutFor", "(LStretchedCarpet$Room;I)I"⟩ ∈ TB := tb_of (i := 513) (by decide +kernel) rfl
theorem tb_514 : Cond.code ⟨"StretchedCarpet$Carpet", "cutFor", "(LStretchedCarpet$Room;I)I"⟩ prog_2_method_6_code 4 (Option.some .int) ∈ TB := tb_of (i := 514) (by decide +kernel) rfl
theorem tb_515 : Cond.methodLink "StretchedCarpetLaw" 48 ⟨"StretchedCarpet", "hook", "(II)I"⟩ ∈ TB := tb_of (i := 515) (by decide +kernel) rfl
theorem tb_516 : Cond.instanceMethod ⟨"StretchedCarpet", "hook", "(II)I"⟩ ∈ TB := tb_of (i := 516) (by decide +kernel) rfl
theorem tb_517 : Cond.selects "StretchedCarpet" ⟨"StretchedCarpet", "hook", "(II)I"⟩ ⟨"StretchedCarpet", "hook", "(II)I"⟩ ∈ TB := tb_of (i := 517) (by decide +kernel) rfl
theorem tb_518 : Cond.code ⟨"StretchedCarpet", "hook", "(II)I"⟩ prog_1_method_10_code 3 (Option.some .int) ∈ TB := tb_of (i := 518) (by decide +kernel) rfl
theorem tb_519 : Cond.methodLink "StretchedCarpet" 149 ⟨"StretchedCarpet$Carpet", "isCovered", "(LStretchedCarpet$Room;)Z"⟩ ∈ TB := tb_of (i := 519) (by decide +kernel) rfl
theorem tb_520 : Cond.instanceMethod ⟨"StretchedCarpet$Carpet", "isCovered", "(LStretchedCarpet$Room;)Z"⟩ ∈ TB := tb_of (i := 520) (by decide +kernel) rfl
theorem tb_521 : Cond.selects "StretchedCarpet$Carpet" ⟨"StretchedCarpet$Carpet", "isCovered", "(LStretchedCarpet$Room;)Z"⟩ ⟨"StretchedCarpet$Carpet", "isCovered", "(LStretchedCarpet$Room;)Z"⟩ ∈ TB := tb_of (i := 521) (by decide +kernel) rfl
theorem tb_522 : Cond.code ⟨"StretchedCarpet$Carpet", "isCovered", "(LStretchedCarpet$Room;)Z"⟩ prog_2_method_4_code 2 (Option.some .boolean) ∈ TB := tb_of (i := 522) (by decide +kernel) rfl
theorem tb_523 : Cond.methodLink "StretchedCarpet" 153 ⟨"StretchedCarpet$Carpet", "isFree", "(I)Z"⟩ ∈ TB := tb_of (i := 523) (by decide +kernel) rfl
theorem tb_524 : Cond.instanceMethod ⟨"StretchedCarpet$Carpet", "isFree", "(I)Z"⟩ ∈ TB := tb_of (i := 524) (by decide +kernel) rfl
theorem tb_525 : Cond.selects "StretchedCarpet$Carpet" ⟨"StretchedCarpet$Carpet", "isFree", "(I)Z"⟩ ⟨"StretchedCarpet$Carpet", "isFree", "(I)Z"⟩ ∈ TB := tb_of (i := 525) (by decide +kernel) rfl
theorem tb_526 : Cond.code ⟨"StretchedCarpet$Carpet", "isFree", "(I)Z"⟩ prog_2_method_14_code 2 (Option.some .boolean) ∈ TB := tb_of (i := 526) (by decide +kernel) rfl
theorem tb_527 : Cond.methodLink "StretchedCarpet$Carpet" 73 ⟨"StretchedCarpet$Carpet", "isTorn", "(I)Z"⟩ ∈ TB := tb_of (i := 527) (by decide +kernel) rfl
theorem tb_528 : Cond.methodLink "StretchedCarpet" 156 ⟨"StretchedCarpet$Carpet", "hookOn", "(LStretchedCarpet$Room;II)I"⟩ ∈ TB := tb_of (i := 528) (by decide +kernel) rfl
theorem tb_529 : Cond.instanceMethod ⟨"StretchedCarpet$Carpet", "hookOn", "(LStretchedCarpet$Room;II)I"⟩ ∈ TB := tb_of (i := 529) (by decide +kernel) rfl
theorem tb_530 : Cond.selects "StretchedCarpet$Carpet" ⟨"StretchedCarpet$Carpet", "hookOn", "(LStretchedCarpet$Room;II)I"⟩ ⟨"StretchedCarpet$Carpet", "hookOn", "(LStretchedCarpet$Room;II)I"⟩ ∈ TB := tb_of (i := 530) (by decide +kernel) rfl
theorem tb_531 : Cond.code ⟨"StretchedCarpet$Carpet", "hookOn", "(LStretchedCarpet$Room;II)I"⟩ prog_2_method_19_code 5 (Option.some .int) ∈ TB := tb_of (i := 531) (by decide +kernel) rfl
theorem tb_532 : Cond.methodLink "StretchedCarpet$Carpet" 99 ⟨"StretchedCarpet$Carpet", "tightnessBy", "(LStretchedCarpet$Room;II)I"⟩ ∈ TB := tb_of (i := 532) (by decide +kernel) rfl
theorem tb_533 : Cond.instanceMethod ⟨"StretchedCarpet$Carpet", "tightnessBy", "(LStretchedCarpet$Room;II)I"⟩ ∈ TB := tb_of (i := 533) (by decide +kernel) rfl
theorem tb_534 : Cond.selects "StretchedCarpet$Carpet" ⟨"StretchedCarpet$Carpet", "tightnessBy", "(LStretchedCarpet$Room;II)I"⟩ ⟨"StretchedCarpet$Carpet", "tightnessBy", "(LStretchedCarpet$Room;II)I"⟩ ∈ TB := tb_of (i := 534) (by decide +kernel) rfl
theorem tb_535 : Cond.code ⟨"StretchedCarpet$Carpet", "tightnessBy", "(LStretchedCarpet$Room;II)I"⟩ prog_2_method_17_code 6 (Option.some .int) ∈ TB := tb_of (i := 535) (by decide +kernel) rfl
theorem tb_536 : Cond.methodLink "StretchedCarpet$Carpet" 85 ⟨"java/lang/Integer", "bitCount", "(I)I"⟩ ∈ TB := tb_of (i := 536) (by decide +kernel) rfl
theorem tb_537 : Cond.static ⟨"java/lang/Integer", "bitCount", "(I)I"⟩ ∈ TB := tb_of (i := 537) (by decide +kernel) rfl
theorem tb_538 : Cond.code ⟨"java/lang/Integer", "bitCount", "(I)I"⟩ prog_10_method_49_code 1 (Option.some .int) ∈ TB := tb_of (i := 538) (by decide +kernel) rfl
theorem tb_539 : Cond.constant "java/lang/Integer" 265 (iI (1431655765)) ∈ TB := tb_of (i := 539) (by decide +kernel) rfl
theorem tb_540 : Cond.constant "java/lang/Integer" 266 (iI (858993459)) ∈ TB := tb_of (i := 540) (by decide +kernel) rfl
theorem tb_541 : Cond.constant "java/lang/Integer" 267 (iI (252645135)) ∈ TB := tb_of (i := 541) (by decide +kernel) rfl
theorem tb_542 : Cond.methodLinkNest "StretchedCarpet$Carpet" 90 ⟨"StretchedCarpet", "slackOf", "(III)I"⟩ "StretchedCarpet" ∈ NB := nb_of (i := 542) (by decide +kernel) rfl
theorem tb_543 : Cond.static ⟨"StretchedCarpet", "slackOf", "(III)I"⟩ ∈ TB := tb_of (i := 543) (by decide +kernel) rfl
theorem tb_544 : Cond.code ⟨"StretchedCarpet", "slackOf", "(III)I"⟩ prog_1_method_38_code 3 (Option.some .int) ∈ TB := tb_of (i := 544) (by decide +kernel) rfl
theorem tb_545 : Cond.methodLink "StretchedCarpet$Carpet" 94 ⟨"java/lang/Math", "max", "(II)I"⟩ ∈ TB := tb_of (i := 545) (by decide +kernel) rfl
theorem tb_546 : Cond.methodLink "StretchedCarpetLaw" 52 ⟨"StretchedCarpet", "letGo", "(I)I"⟩ ∈ TB := tb_of (i := 546) (by decide +kernel) rfl
theorem tb_547 : Cond.instanceMethod ⟨"StretchedCarpet", "letGo", "(I)I"⟩ ∈ TB := tb_of (i := 547) (by decide +kernel) rfl
theorem tb_548 : Cond.selects "StretchedCarpet" ⟨"StretchedCarpet", "letGo", "(I)I"⟩ ⟨"StretchedCarpet", "letGo", "(I)I"⟩ ∈ TB := tb_of (i := 548) (by decide +kernel) rfl
theorem tb_549 : Cond.code ⟨"StretchedCarpet", "letGo", "(I)I"⟩ prog_1_method_11_code 2 (Option.some .int) ∈ TB := tb_of (i := 549) (by decide +kernel) rfl
theorem tb_550 : Cond.methodLink "StretchedCarpet" 160 ⟨"StretchedCarpet$Carpet", "unhook", "(I)I"⟩ ∈ TB := tb_of (i := 550) (by decide +kernel) rfl
theorem tb_551 : Cond.instanceMethod ⟨"StretchedCarpet$Carpet", "unhook", "(I)I"⟩ ∈ TB := tb_of (i := 551) (by decide +kernel) rfl
theorem tb_552 : Cond.selects "StretchedCarpet$Carpet" ⟨"StretchedCarpet$Carpet", "unhook", "(I)I"⟩ ⟨"StretchedCarpet$Carpet", "unhook", "(I)I"⟩ ∈ TB := tb_of (i := 552) (by decide +kernel) rfl
theorem tb_553 : Cond.code ⟨"StretchedCarpet$Carpet", "unhook", "(I)I"⟩ prog_2_method_20_code 3 (Option.some .int) ∈ TB := tb_of (i := 553) (by decide +kernel) rfl
theorem tb_554 : Cond.methodLink "StretchedCarpetLaw" 56 ⟨"StretchedCarpet", "pass", "(I)I"⟩ ∈ TB := tb_of (i := 554) (by decide +kernel) rfl
theorem tb_555 : Cond.instanceMethod ⟨"StretchedCarpet", "pass", "(I)I"⟩ ∈ TB := tb_of (i := 555) (by decide +kernel) rfl
theorem tb_556 : Cond.selects "StretchedCarpet" ⟨"StretchedCarpet", "pass", "(I)I"⟩ ⟨"StretchedCarpet", "pass", "(I)I"⟩ ∈ TB := tb_of (i := 556) (by decide +kernel) rfl
theorem tb_557 : Cond.code ⟨"StretchedCarpet", "pass", "(I)I"⟩ prog_1_method_12_code 3 (Option.some .int) ∈ TB := tb_of (i := 557) (by decide +kernel) rfl
theorem tb_558 : Cond.methodLink "StretchedCarpet" 166 ⟨"StretchedCarpet$Carpet", "passMonth", "(LStretchedCarpet$Room;)V"⟩ ∈ TB := tb_of (i := 558) (by decide +kernel) rfl
theorem tb_559 : Cond.instanceMethod ⟨"StretchedCarpet$Carpet", "passMonth", "(LStretchedCarpet$Room;)V"⟩ ∈ TB := tb_of (i := 559) (by decide +kernel) rfl
theorem tb_560 : Cond.selects "StretchedCarpet$Carpet" ⟨"StretchedCarpet$Carpet", "passMonth", "(LStretchedCarpet$Room;)V"⟩ ⟨"StretchedCarpet$Carpet", "passMonth", "(LStretchedCarpet$Room;)V"⟩ ∈ TB := tb_of (i := 560) (by decide +kernel) rfl
theorem tb_561 : Cond.code ⟨"StretchedCarpet$Carpet", "passMonth", "(LStretchedCarpet$Room;)V"⟩ prog_2_method_21_code 4 (Option.none : Option Jvm.ClassFile.FieldType) ∈ TB := tb_of (i := 561) (by decide +kernel) rfl
theorem tb_562 : Cond.methodLink "StretchedCarpet$Carpet" 106 ⟨"StretchedCarpet$Room", "slackeningIn", "(I)I"⟩ ∈ TB := tb_of (i := 562) (by decide +kernel) rfl
theorem tb_563 : Cond.instanceMethod ⟨"StretchedCarpet$Room", "slackeningIn", "(I)I"⟩ ∈ TB := tb_of (i := 563) (by decide +kernel) rfl
theorem tb_564 : Cond.selects "StretchedCarpet$Room" ⟨"StretchedCarpet$Room", "slackeningIn", "(I)I"⟩ ⟨"StretchedCarpet$Room", "slackeningIn", "(I)I"⟩ ∈ TB := tb_of (i := 564) (by decide +kernel) rfl
theorem tb_565 : Cond.code ⟨"StretchedCarpet$Room", "slackeningIn", "(I)I"⟩ prog_5_method_17_code 2 (Option.some .int) ∈ TB := tb_of (i := 565) (by decide +kernel) rfl
theorem tb_566 : Cond.methodLink "StretchedCarpet$Room" 98 ⟨"StretchedCarpet$Room", "dampOf", "(I)I"⟩ ∈ TB := tb_of (i := 566) (by decide +kernel) rfl
theorem tb_567 : Cond.methodLink "StretchedCarpetLaw" 60 ⟨"StretchedCarpet", "undo", "()I"⟩ ∈ TB := tb_of (i := 567) (by decide +kernel) rfl
theorem tb_568 : Cond.instanceMethod ⟨"StretchedCarpet", "undo", "()I"⟩ ∈ TB := tb_of (i := 568) (by decide +kernel) rfl
theorem tb_569 : Cond.selects "StretchedCarpet" ⟨"StretchedCarpet", "undo", "()I"⟩ ⟨"StretchedCarpet", "undo", "()I"⟩ ∈ TB := tb_of (i := 569) (by decide +kernel) rfl
theorem tb_570 : Cond.code ⟨"StretchedCarpet", "undo", "()I"⟩ prog_1_method_13_code 1 (Option.some .int) ∈ TB := tb_of (i := 570) (by decide +kernel) rfl
theorem tb_571 : Cond.methodLink "StretchedCarpet" 170 ⟨"StretchedCarpet$Shelf", "pop", "(LStretchedCarpet$Carpet;)Z"⟩ ∈ TB := tb_of (i := 571) (by decide +kernel) rfl
theorem tb_572 : Cond.instanceMethod ⟨"StretchedCarpet$Shelf", "pop", "(LStretchedCarpet$Carpet;)Z"⟩ ∈ TB := tb_of (i := 572) (by decide +kernel) rfl
theorem tb_573 : Cond.selects "StretchedCarpet$Shelf" ⟨"StretchedCarpet$Shelf", "pop", "(LStretchedCarpet$Carpet;)Z"⟩ ⟨"StretchedCarpet$Shelf", "pop", "(LStretchedCarpet$Carpet;)Z"⟩ ∈ TB := tb_of (i := 573) (by decide +kernel) rfl
theorem tb_574 : Cond.code ⟨"StretchedCarpet$Shelf", "pop", "(LStretchedCarpet$Carpet;)Z"⟩ prog_6_method_6_code 4 (Option.some .boolean) ∈ TB := tb_of (i := 574) (by decide +kernel) rfl
theorem tb_575 : Cond.methodLink "StretchedCarpetLaw" 64 ⟨"StretchedCarpet", "plan", "(I)I"⟩ ∈ TB := tb_of (i := 575) (by decide +kernel) rfl
theorem tb_576 : Cond.instanceMethod ⟨"StretchedCarpet", "plan", "(I)I"⟩ ∈ TB := tb_of (i := 576) (by decide +kernel) rfl
theorem tb_577 : Cond.selects "StretchedCarpet" ⟨"StretchedCarpet", "plan", "(I)I"⟩ ⟨"StretchedCarpet", "plan", "(I)I"⟩ ∈ TB := tb_of (i := 577) (by decide +kernel) rfl
theorem tb_578 : Cond.code ⟨"StretchedCarpet", "plan", "(I)I"⟩ prog_1_method_14_code 2 (Option.some .int) ∈ TB := tb_of (i := 578) (by decide +kernel) rfl
theorem tb_579 : Cond.methodLink "StretchedCarpet" 177 ⟨"StretchedCarpet$CutPlan", "make", "(LStretchedCarpet$Room;LStretchedCarpet$Carpet;)V"⟩ ∈ TB := tb_of (i := 579) (by decide +kernel) rfl
theorem tb_580 : Cond.instanceMethod ⟨"StretchedCarpet$CutPlan", "make", "(LStretchedCarpet$Room;LStretchedCarpet$Carpet;)V"⟩ ∈ TB := tb_of (i := 580) (by decide +kernel) rfl
theorem tb_581 : Cond.selects "StretchedCarpet$CutPlan" ⟨"StretchedCarpet$CutPlan", "make", "(LStretchedCarpet$Room;LStretchedCarpet$Carpet;)V"⟩ ⟨"StretchedCarpet$CutPlan", "make", "(LStretchedCarpet$Room;LStretchedCarpet$Carpet;)V"⟩ ∈ TB := tb_of (i := 581) (by decide +kernel) rfl
theorem tb_582 : Cond.code ⟨"StretchedCarpet$CutPlan", "make", "(LStretchedCarpet$Room;LStretchedCarpet$Carpet;)V"⟩ prog_3_method_2_code 4 (Option.none : Option Jvm.ClassFile.FieldType) ∈ TB := tb_of (i := 582) (by decide +kernel) rfl
theorem tb_583 : Cond.methodLinkNest "StretchedCarpet$CutPlan" 42 ⟨"StretchedCarpet", "put", "([III)V"⟩ "StretchedCarpet" ∈ NB := nb_of (i := 583) (by decide +kernel) rfl
theorem tb_584 : Cond.methodLink "StretchedCarpet$CutPlan" 46 ⟨"StretchedCarpet$CutPlan", "choose", "(LStretchedCarpet$Room;I)V"⟩ ∈ TB := tb_of (i := 584) (by decide +kernel) rfl
theorem tb_586 : Cond.instanceMethod ⟨"StretchedCarpet$CutPlan", "choose", "(LStretchedCarpet$Room;I)V"⟩ ∈ TB := tb_of (i := 586) (by decide +kernel) rfl
theorem tb_587 : Cond.code ⟨"StretchedCarpet$CutPlan", "choose", "(LStretchedCarpet$Room;I)V"⟩ prog_3_method_3_code 8 (Option.none : Option Jvm.ClassFile.FieldType) ∈ TB := tb_of (i := 587) (by decide +kernel) rfl
theorem tb_588 : Cond.methodLink "StretchedCarpet$CutPlan" 63 ⟨"StretchedCarpet$Room", "lightAt", "(I)I"⟩ ∈ TB := tb_of (i := 588) (by decide +kernel) rfl
theorem tb_589 : Cond.methodLink "StretchedCarpet$CutPlan" 67 ⟨"StretchedCarpet$Room", "treadAt", "(I)I"⟩ ∈ TB := tb_of (i := 589) (by decide +kernel) rfl
theorem tb_590 : Cond.methodLink "StretchedCarpet$CutPlan" 73 ⟨"java/lang/Math", "min", "(II)I"⟩ ∈ TB := tb_of (i := 590) (by decide +kernel) rfl
theorem tb_591 : Cond.methodLink "StretchedCarpet$CutPlan" 79 ⟨"StretchedCarpet$Room", "lengthFor", "(II)I"⟩ ∈ TB := tb_of (i := 591) (by decide +kernel) rfl
theorem tb_592 : Cond.methodLinkNest "StretchedCarpet$CutPlan" 50 ⟨"StretchedCarpet", "at", "([II)I"⟩ "StretchedCarpet" ∈ NB := nb_of (i := 592) (by decide +kernel) rfl
theorem tb_593 : Cond.methodLink "StretchedCarpet$CutPlan" 82 ⟨"StretchedCarpet$CutPlan", "isLess", "(III)Z"⟩ ∈ TB := tb_of (i := 593) (by decide +kernel) rfl
theorem tb_595 : Cond.instanceMethod ⟨"StretchedCarpet$CutPlan", "isLess", "(III)Z"⟩ ∈ TB := tb_of (i := 595) (by decide +kernel) rfl
theorem tb_596 : Cond.code ⟨"StretchedCarpet$CutPlan", "isLess", "(III)Z"⟩ prog_3_method_4_code 5 (Option.some .boolean) ∈ TB := tb_of (i := 596) (by decide +kernel) rfl
theorem tb_597 : Cond.methodLink "StretchedCarpet" 191 ⟨"StretchedCarpet$CutPlan", "breadthOf", "(I)I"⟩ ∈ TB := tb_of (i := 597) (by decide +kernel) rfl
theorem tb_598 : Cond.instanceMethod ⟨"StretchedCarpet$CutPlan", "breadthOf", "(I)I"⟩ ∈ TB := tb_of (i := 598) (by decide +kernel) rfl
theorem tb_599 : Cond.selects "StretchedCarpet$CutPlan" ⟨"StretchedCarpet$CutPlan", "breadthOf", "(I)I"⟩ ⟨"StretchedCarpet$CutPlan", "breadthOf", "(I)I"⟩ ∈ TB := tb_of (i := 599) (by decide +kernel) rfl
theorem tb_600 : Cond.code ⟨"StretchedCarpet$CutPlan", "breadthOf", "(I)I"⟩ prog_3_method_5_code 5 (Option.some .int) ∈ TB := tb_of (i := 600) (by decide +kernel) rfl
theorem tb_601 : Cond.methodLink "StretchedCarpetLaw" 68 ⟨"StretchedCarpet", "order", "(I)I"⟩ ∈ TB := tb_of (i := 601) (by decide +kernel) rfl
theorem tb_602 : Cond.instanceMethod ⟨"StretchedCarpet", "order", "(I)I"⟩ ∈ TB := tb_of (i := 602) (by decide +kernel) rfl
theorem tb_603 : Cond.selects "StretchedCarpet" ⟨"StretchedCarpet", "order", "(I)I"⟩ ⟨"StretchedCarpet", "order", "(I)I"⟩ ∈ TB := tb_of (i := 603) (by decide +kernel) rfl
theorem tb_604 : Cond.code ⟨"StretchedCarpet", "order", "(I)I"⟩ prog_1_method_15_code 2 (Option.some .int) ∈ TB := tb_of (i := 604) (by decide +kernel) rfl
theorem tb_605 : Cond.methodLink "StretchedCarpet" 194 ⟨"StretchedCarpet$HookOrder", "make", "(LStretchedCarpet$Room;LStretchedCarpet$Carpet;LStretchedCarpet$Carpet;)V"⟩ ∈ TB := tb_of (i := 605) (by decide +kernel) rfl
theorem tb_606 : Cond.instanceMethod ⟨"StretchedCarpet$HookOrder", "make", "(LStretchedCarpet$Room;LStretchedCarpet$Carpet;LStretchedCarpet$Carpet;)V"⟩ ∈ TB := tb_of (i := 606) (by decide +kernel) rfl
theorem tb_607 : Cond.selects "StretchedCarpet$HookOrder" ⟨"StretchedCarpet$HookOrder", "make", "(LStretchedCarpet$Room;LStretchedCarpet$Carpet;LStretchedCarpet$Carpet;)V"⟩ ⟨"StretchedCarpet$HookOrder", "make", "(LStretchedCarpet$Room;LStretchedCarpet$Carpet;LStretchedCarpet$Carpet;)V"⟩ ∈ TB := tb_of (i := 607) (by decide +kernel) rfl
theorem tb_608 : Cond.code ⟨"StretchedCarpet$HookOrder", "make", "(LStretchedCarpet$Room;LStretchedCarpet$Carpet;LStretchedCarpet$Carpet;)V"⟩ prog_4_method_2_code 6 (Option.none : Option Jvm.ClassFile.FieldType) ∈ TB := tb_of (i := 608) (by decide +kernel) rfl
theorem tb_609 : Cond.methodLink "StretchedCarpet$HookOrder" 18 ⟨"StretchedCarpet$Carpet", "isFree", "(I)Z"⟩ ∈ TB := tb_of (i := 609) (by decide +kernel) rfl
theorem tb_610 : Cond.methodLink "StretchedCarpet$HookOrder" 24 ⟨"StretchedCarpet$HookOrder", "isOrder", "(LStretchedCarpet$Carpet;I)Z"⟩ ∈ TB := tb_of (i := 610) (by decide +kernel) rfl
theorem tb_612 : Cond.instanceMethod ⟨"StretchedCarpet$HookOrder", "isOrder", "(LStretchedCarpet$Carpet;I)Z"⟩ ∈ TB := tb_of (i := 612) (by decide +kernel) rfl
theorem tb_613 : Cond.code ⟨"StretchedCarpet$HookOrder", "isOrder", "(LStretchedCarpet$Carpet;I)Z"⟩ prog_4_method_4_code 6 (Option.some .boolean) ∈ TB := tb_of (i := 613) (by decide +kernel) rfl
theorem tb_614 : Cond.methodLink "StretchedCarpet$HookOrder" 35 ⟨"StretchedCarpet$HookOrder", "wallIn", "(II)I"⟩ ∈ TB := tb_of (i := 614) (by decide +kernel) rfl
theorem tb_616 : Cond.instanceMethod ⟨"StretchedCarpet$HookOrder", "wallIn", "(II)I"⟩ ∈ TB := tb_of (i := 616) (by decide +kernel) rfl
theorem tb_617 : Cond.code ⟨"StretchedCarpet$HookOrder", "wallIn", "(II)I"⟩ prog_4_method_3_code 3 (Option.some .int) ∈ TB := tb_of (i := 617) (by decide +kernel) rfl
theorem tb_618 : Cond.methodLink "StretchedCarpet$HookOrder" 28 ⟨"StretchedCarpet$HookOrder", "kicksOf", "(LStretchedCarpet$Room;LStretchedCarpet$Carpet;LStretchedCarpet$Carpet;I)I"⟩ ∈ TB := tb_of (i := 618) (by decide +kernel) rfl
theorem tb_620 : Cond.instanceMethod ⟨"StretchedCarpet$HookOrder", "kicksOf", "(LStretchedCarpet$Room;LStretchedCarpet$Carpet;LStretchedCarpet$Carpet;I)I"⟩ ∈ TB := tb_of (i := 620) (by decide +kernel) rfl
theorem tb_621 : Cond.code ⟨"StretchedCarpet$HookOrder", "kicksOf", "(LStretchedCarpet$Room;LStretchedCarpet$Carpet;LStretchedCarpet$Carpet;I)I"⟩ prog_4_method_5_code 10 (Option.some .int) ∈ TB := tb_of (i := 621) (by decide +kernel) rfl
theorem tb_622 : Cond.methodLink "StretchedCarpet$HookOrder" 39 ⟨"StretchedCarpet$Carpet", "copyFrom", "(LStretchedCarpet$Carpet;)V"⟩ ∈ TB := tb_of (i := 622) (by decide +kernel) rfl
theorem tb_623 : Cond.methodLink "StretchedCarpet$HookOrder" 46 ⟨"StretchedCarpet$Carpet", "leastKick", "(LStretchedCarpet$Room;II)I"⟩ ∈ TB := tb_of (i := 623) (by decide +kernel) rfl
theorem tb_624 : Cond.instanceMethod ⟨"StretchedCarpet$Carpet", "leastKick", "(LStretchedCarpet$Room;II)I"⟩ ∈ TB := tb_of (i := 624) (by decide +kernel) rfl
theorem tb_625 : Cond.selects "StretchedCarpet$Carpet" ⟨"StretchedCarpet$Carpet", "leastKick", "(LStretchedCarpet$Room;II)I"⟩ ⟨"StretchedCarpet$Carpet", "leastKick", "(LStretchedCarpet$Room;II)I"⟩ ∈ TB := tb_of (i := 625) (by decide +kernel) rfl
theorem tb_626 : Cond.code ⟨"StretchedCarpet$Carpet", "leastKick", "(LStretchedCarpet$Room;II)I"⟩ prog_2_method_18_code 6 (Option.some .int) ∈ TB := tb_of (i := 626) (by decide +kernel) rfl
theorem tb_627 : Cond.methodLink "StretchedCarpet$HookOrder" 50 ⟨"StretchedCarpet$Carpet", "hookOn", "(LStretchedCarpet$Room;II)I"⟩ ∈ TB := tb_of (i := 627) (by decide +kernel) rfl
theorem tb_628 : Cond.methodLink "StretchedCarpet" 200 ⟨"StretchedCarpet$HookOrder", "wallAt", "(I)I"⟩ ∈ TB := tb_of (i := 628) (by decide +kernel) rfl
theorem tb_629 : Cond.instanceMethod ⟨"StretchedCarpet$HookOrder", "wallAt", "(I)I"⟩ ∈ TB := tb_of (i := 629) (by decide +kernel) rfl
theorem tb_630 : Cond.selects "StretchedCarpet$HookOrder" ⟨"StretchedCarpet$HookOrder", "wallAt", "(I)I"⟩ ⟨"StretchedCarpet$HookOrder", "wallAt", "(I)I"⟩ ∈ TB := tb_of (i := 630) (by decide +kernel) rfl
theorem tb_631 : Cond.code ⟨"StretchedCarpet$HookOrder", "wallAt", "(I)I"⟩ prog_4_method_6_code 2 (Option.some .int) ∈ TB := tb_of (i := 631) (by decide +kernel) rfl
theorem tb_632 : Cond.methodLink "StretchedCarpetLaw" 72 ⟨"StretchedCarpet", "kickFor", "(II)I"⟩ ∈ TB := tb_of (i := 632) (by decide +kernel) rfl
theorem tb_633 : Cond.instanceMethod ⟨"StretchedCarpet", "kickFor", "(II)I"⟩ ∈ TB := tb_of (i := 633) (by decide +kernel) rfl
theorem tb_634 : Cond.selects "StretchedCarpet" ⟨"StretchedCarpet", "kickFor", "(II)I"⟩ ⟨"StretchedCarpet", "kickFor", "(II)I"⟩ ∈ TB := tb_of (i := 634) (by decide +kernel) rfl
theorem tb_635 : Cond.code ⟨"StretchedCarpet", "kickFor", "(II)I"⟩ prog_1_method_16_code 3 (Option.some .int) ∈ TB := tb_of (i := 635) (by decide +kernel) rfl
theorem tb_636 : Cond.methodLink "StretchedCarpet" 203 ⟨"StretchedCarpet$Carpet", "leastKick", "(LStretchedCarpet$Room;II)I"⟩ ∈ TB := tb_of (i := 636) (by decide +kernel) rfl
theorem tb_637 : Cond.methodLink "StretchedCarpetLaw" 76 ⟨"StretchedCarpet", "waves", "()I"⟩ ∈ TB := tb_of (i := 637) (by decide +kernel) rfl
theorem tb_638 : Cond.instanceMethod ⟨"StretchedCarpet", "waves", "()I"⟩ ∈ TB := tb_of (i := 638) (by decide +kernel) rfl
theorem tb_639 : Cond.selects "StretchedCarpet" ⟨"StretchedCarpet", "waves", "()I"⟩ ⟨"StretchedCarpet", "waves", "()I"⟩ ∈ TB := tb_of (i := 639) (by decide +kernel) rfl
theorem tb_640 : Cond.code ⟨"StretchedCarpet", "waves", "()I"⟩ prog_1_method_17_code 3 (Option.some .int) ∈ TB := tb_of (i := 640) (by decide +kernel) rfl
theorem tb_641 : Cond.methodLink "StretchedCarpet" 206 ⟨"StretchedCarpet$Carpet", "monthsToWave", "(LStretchedCarpet$Room;I)I"⟩ ∈ TB := tb_of (i := 641) (by decide +kernel) rfl
theorem tb_642 : Cond.instanceMethod ⟨"StretchedCarpet$Carpet", "monthsToWave", "(LStretchedCarpet$Room;I)I"⟩ ∈ TB := tb_of (i := 642) (by decide +kernel) rfl
theorem tb_643 : Cond.selects "StretchedCarpet$Carpet" ⟨"StretchedCarpet$Carpet", "monthsToWave", "(LStretchedCarpet$Room;I)I"⟩ ⟨"StretchedCarpet$Carpet", "monthsToWave", "(LStretchedCarpet$Room;I)I"⟩ ∈ TB := tb_of (i := 643) (by decide +kernel) rfl
theorem tb_644 : Cond.code ⟨"StretchedCarpet$Carpet", "monthsToWave", "(LStretchedCarpet$Room;I)I"⟩ prog_2_method_22_code 5 (Option.some .int) ∈ TB := tb_of (i := 644) (by decide +kernel) rfl
theorem tb_645 : Cond.methodLink "StretchedCarpet" 209 ⟨"java/lang/Math", "min", "(II)I"⟩ ∈ TB := tb_of (i := 645) (by decide +kernel) rfl
theorem tb_646 : Cond.methodLink "StretchedCarpetLaw" 80 ⟨"StretchedCarpet", "longest", "()I"⟩ ∈ TB := tb_of (i := 646) (by decide +kernel) rfl
theorem tb_647 : Cond.instanceMethod ⟨"StretchedCarpet", "longest", "()I"⟩ ∈ TB := tb_of (i := 647) (by decide +kernel) rfl
theorem tb_648 : Cond.selects "StretchedCarpet" ⟨"StretchedCarpet", "longest", "()I"⟩ ⟨"StretchedCarpet", "longest", "()I"⟩ ∈ TB := tb_of (i := 648) (by decide +kernel) rfl
theorem tb_649 : Cond.code ⟨"StretchedCarpet", "longest", "()I"⟩ prog_1_method_18_code 4 (Option.some .int) ∈ TB := tb_of (i := 649) (by decide +kernel) rfl
theorem tb_650 : Cond.methodLink "StretchedCarpetLaw" 84 ⟨"StretchedCarpet", "seen", "(II)I"⟩ ∈ TB := tb_of (i := 650) (by decide +kernel) rfl
theorem tb_651 : Cond.instanceMethod ⟨"StretchedCarpet", "seen", "(II)I"⟩ ∈ TB := tb_of (i := 651) (by decide +kernel) rfl
theorem tb_652 : Cond.selects "StretchedCarpet" ⟨"StretchedCarpet", "seen", "(II)I"⟩ ⟨"StretchedCarpet", "seen", "(II)I"⟩ ∈ TB := tb_of (i := 652) (by decide +kernel) rfl
theorem tb_653 : Cond.code ⟨"StretchedCarpet", "seen", "(II)I"⟩ prog_1_method_19_code 3 (Option.some .int) ∈ TB := tb_of (i := 653) (by decide +kernel) rfl
theorem tb_654 : Cond.methodLink "StretchedCarpet" 215 ⟨"StretchedCarpet$Sightings", "add", "(II)Z"⟩ ∈ TB := tb_of (i := 654) (by decide +kernel) rfl
theorem tb_655 : Cond.instanceMethod ⟨"StretchedCarpet$Sightings", "add", "(II)Z"⟩ ∈ TB := tb_of (i := 655) (by decide +kernel) rfl
theorem tb_656 : Cond.selects "StretchedCarpet$Sightings" ⟨"StretchedCarpet$Sightings", "add", "(II)Z"⟩ ⟨"StretchedCarpet$Sightings", "add", "(II)Z"⟩ ∈ TB := tb_of (i := 656) (by decide +kernel) rfl
theorem tb_657 : Cond.code ⟨"StretchedCarpet$Sightings", "add", "(II)Z"⟩ prog_7_method_3_code 3 (Option.some .boolean) ∈ TB := tb_of (i := 657) (by decide +kernel) rfl
theorem tb_658 : Cond.methodLinkNest "StretchedCarpet$Sightings" 25 ⟨"StretchedCarpet", "put", "([III)V"⟩ "StretchedCarpet" ∈ NB := nb_of (i := 658) (by decide +kernel) rfl
theorem tb_659 : Cond.methodLink "StretchedCarpetLaw" 88 ⟨"StretchedCarpet", "forget", "()I"⟩ ∈ TB := tb_of (i := 659) (by decide +kernel) rfl
theorem tb_660 : Cond.instanceMethod ⟨"StretchedCarpet", "forget", "()I"⟩ ∈ TB := tb_of (i := 660) (by decide +kernel) rfl
theorem tb_661 : Cond.selects "StretchedCarpet" ⟨"StretchedCarpet", "forget", "()I"⟩ ⟨"StretchedCarpet", "forget", "()I"⟩ ∈ TB := tb_of (i := 661) (by decide +kernel) rfl
theorem tb_662 : Cond.code ⟨"StretchedCarpet", "forget", "()I"⟩ prog_1_method_20_code 2 (Option.some .int) ∈ TB := tb_of (i := 662) (by decide +kernel) rfl
theorem tb_663 : Cond.methodLink "StretchedCarpetLaw" 92 ⟨"StretchedCarpet", "may", "(I)I"⟩ ∈ TB := tb_of (i := 663) (by decide +kernel) rfl
theorem tb_664 : Cond.instanceMethod ⟨"StretchedCarpet", "may", "(I)I"⟩ ∈ TB := tb_of (i := 664) (by decide +kernel) rfl
theorem tb_665 : Cond.selects "StretchedCarpet" ⟨"StretchedCarpet", "may", "(I)I"⟩ ⟨"StretchedCarpet", "may", "(I)I"⟩ ∈ TB := tb_of (i := 665) (by decide +kernel) rfl
theorem tb_666 : Cond.code ⟨"StretchedCarpet", "may", "(I)I"⟩ prog_1_method_21_code 2 (Option.some .int) ∈ TB := tb_of (i := 666) (by decide +kernel) rfl
theorem tb_667 : Cond.methodLink "StretchedCarpet" 223 ⟨"StretchedCarpet$Sightings", "kindsFor", "(I)I"⟩ ∈ TB := tb_of (i := 667) (by decide +kernel) rfl
theorem tb_668 : Cond.instanceMethod ⟨"StretchedCarpet$Sightings", "kindsFor", "(I)I"⟩ ∈ TB := tb_of (i := 668) (by decide +kernel) rfl
theorem tb_669 : Cond.selects "StretchedCarpet$Sightings" ⟨"StretchedCarpet$Sightings", "kindsFor", "(I)I"⟩ ⟨"StretchedCarpet$Sightings", "kindsFor", "(I)I"⟩ ∈ TB := tb_of (i := 669) (by decide +kernel) rfl
theorem tb_670 : Cond.code ⟨"StretchedCarpet$Sightings", "kindsFor", "(I)I"⟩ prog_7_method_4_code 4 (Option.some .int) ∈ TB := tb_of (i := 670) (by decide +kernel) rfl
theorem tb_671 : Cond.methodLink "StretchedCarpet$Sightings" 29 ⟨"StretchedCarpet$Sightings", "explainedBy", "(II)Z"⟩ ∈ TB := tb_of (i := 671) (by decide +kernel) rfl
theorem tb_673 : Cond.instanceMethod ⟨"StretchedCarpet$Sightings", "explainedBy", "(II)Z"⟩ ∈ TB := tb_of (i := 673) (by decide +kernel) rfl
theorem tb_674 : Cond.code ⟨"StretchedCarpet$Sightings", "explainedBy", "(II)Z"⟩ prog_7_method_6_code 5 (Option.some .boolean) ∈ TB := tb_of (i := 674) (by decide +kernel) rfl
theorem tb_675 : Cond.methodLinkNest "StretchedCarpet$Sightings" 33 ⟨"StretchedCarpet", "slackOf", "(III)I"⟩ "StretchedCarpet" ∈ NB := nb_of (i := 675) (by decide +kernel) rfl
theorem tb_676 : Cond.methodLinkNest "StretchedCarpet$Sightings" 37 ⟨"StretchedCarpet", "at", "([II)I"⟩ "StretchedCarpet" ∈ NB := nb_of (i := 676) (by decide +kernel) rfl
theorem tb_677 : Cond.methodLink "StretchedCarpet$Sightings" 41 ⟨"java/lang/Math", "max", "(II)I"⟩ ∈ TB := tb_of (i := 677) (by decide +kernel) rfl
theorem tb_678 : Cond.methodLink "StretchedCarpet" 229 ⟨"StretchedCarpet$Sightings", "givesFor", "(I)I"⟩ ∈ TB := tb_of (i := 678) (by decide +kernel) rfl
theorem tb_679 : Cond.instanceMethod ⟨"StretchedCarpet$Sightings", "givesFor", "(I)I"⟩ ∈ TB := tb_of (i := 679) (by decide +kernel) rfl
theorem tb_680 : Cond.selects "StretchedCarpet$Sightings" ⟨"StretchedCarpet$Sightings", "givesFor", "(I)I"⟩ ⟨"StretchedCarpet$Sightings", "givesFor", "(I)I"⟩ ∈ TB := tb_of (i := 680) (by decide +kernel) rfl
theorem tb_681 : Cond.code ⟨"StretchedCarpet$Sightings", "givesFor", "(I)I"⟩ prog_7_method_5_code 4 (Option.some .int) ∈ TB := tb_of (i := 681) (by decide +kernel) rfl
theorem tb_682 : Cond.methodLink "StretchedCarpetLaw" 96 ⟨"StretchedCarpet", "hall", "(II)I"⟩ ∈ TB := tb_of (i := 682) (by decide +kernel) rfl
theorem tb_683 : Cond.instanceMethod ⟨"StretchedCarpet", "hall", "(II)I"⟩ ∈ TB := tb_of (i := 683) (by decide +kernel) rfl
theorem tb_684 : Cond.selects "StretchedCarpet" ⟨"StretchedCarpet", "hall", "(II)I"⟩ ⟨"StretchedCarpet", "hall", "(II)I"⟩ ∈ TB := tb_of (i := 684) (by decide +kernel) rfl
theorem tb_685 : Cond.code ⟨"StretchedCarpet", "hall", "(II)I"⟩ prog_1_method_22_code 3 (Option.some .int) ∈ TB := tb_of (i := 685) (by decide +kernel) rfl
theorem tb_686 : Cond.methodLink "StretchedCarpet" 232 ⟨"StretchedCarpet$Carpet", "hasRestFor", "(LStretchedCarpet$Room;II)Z"⟩ ∈ TB := tb_of (i := 686) (by decide +kernel) rfl
theorem tb_687 : Cond.instanceMethod ⟨"StretchedCarpet$Carpet", "hasRestFor", "(LStretchedCarpet$Room;II)Z"⟩ ∈ TB := tb_of (i := 687) (by decide +kernel) rfl
theorem tb_688 : Cond.selects "StretchedCarpet$Carpet" ⟨"StretchedCarpet$Carpet", "hasRestFor", "(LStretchedCarpet$Room;II)Z"⟩ ⟨"StretchedCarpet$Carpet", "hasRestFor", "(LStretchedCarpet$Room;II)Z"⟩ ∈ TB := tb_of (i := 688) (by decide +kernel) rfl
theorem tb_689 : Cond.code ⟨"StretchedCarpet$Carpet", "hasRestFor", "(LStretchedCarpet$Room;II)Z"⟩ prog_2_method_9_code 7 (Option.some .boolean) ∈ TB := tb_of (i := 689) (by decide +kernel) rfl
theorem tb_690 : Cond.methodLink "StretchedCarpetLaw" 100 ⟨"StretchedCarpet", "left", "(I)I"⟩ ∈ TB := tb_of (i := 690) (by decide +kernel) rfl
theorem tb_691 : Cond.instanceMethod ⟨"StretchedCarpet", "left", "(I)I"⟩ ∈ TB := tb_of (i := 691) (by decide +kernel) rfl
theorem tb_692 : Cond.selects "StretchedCarpet" ⟨"StretchedCarpet", "left", "(I)I"⟩ ⟨"StretchedCarpet", "left", "(I)I"⟩ ∈ TB := tb_of (i := 692) (by decide +kernel) rfl
theorem tb_693 : Cond.code ⟨"StretchedCarpet", "left", "(I)I"⟩ prog_1_method_23_code 2 (Option.some .int) ∈ TB := tb_of (i := 693) (by decide +kernel) rfl
theorem tb_694 : Cond.methodLink "StretchedCarpet" 242 ⟨"StretchedCarpet$Carpet", "areaOfRests", "(LStretchedCarpet$Room;)I"⟩ ∈ TB := tb_of (i := 694) (by decide +kernel) rfl
theorem tb_695 : Cond.instanceMethod ⟨"StretchedCarpet$Carpet", "areaOfRests", "(LStretchedCarpet$Room;)I"⟩ ∈ TB := tb_of (i := 695) (by decide +kernel) rfl
theorem tb_696 : Cond.selects "StretchedCarpet$Carpet" ⟨"StretchedCarpet$Carpet", "areaOfRests", "(LStretchedCarpet$Room;)I"⟩ ⟨"StretchedCarpet$Carpet", "areaOfRests", "(LStretchedCarpet$Room;)I"⟩ ∈ TB := tb_of (i := 696) (by decide +kernel) rfl
theorem tb_697 : Cond.code ⟨"StretchedCarpet$Carpet", "areaOfRests", "(LStretchedCarpet$Room;)I"⟩ prog_2_method_10_code 6 (Option.some .int) ∈ TB := tb_of (i := 697) (by decide +kernel) rfl
theorem tb_698 : Cond.methodLink "StretchedCarpetLaw" 104 ⟨"StretchedCarpet", "likely", "(IIII)I"⟩ ∈ TB := tb_of (i := 698) (by decide +kernel) rfl
theorem tb_699 : Cond.instanceMethod ⟨"StretchedCarpet", "likely", "(IIII)I"⟩ ∈ TB := tb_of (i := 699) (by decide +kernel) rfl
theorem tb_700 : Cond.selects "StretchedCarpet" ⟨"StretchedCarpet", "likely", "(IIII)I"⟩ ⟨"StretchedCarpet", "likely", "(IIII)I"⟩ ∈ TB := tb_of (i := 700) (by decide +kernel) rfl
theorem tb_701 : Cond.code ⟨"StretchedCarpet", "likely", "(IIII)I"⟩ prog_1_method_24_code 8 (Option.some .int) ∈ TB := tb_of (i := 701) (by decide +kernel) rfl
theorem tb_702 : Cond.methodLink "StretchedCarpet" 246 ⟨"StretchedCarpet", "waysToWave", "(III)I"⟩ ∈ TB := tb_of (i := 702) (by decide +kernel) rfl
theorem tb_703 : Cond.static ⟨"StretchedCarpet", "waysToWave", "(III)I"⟩ ∈ TB := tb_of (i := 703) (by decide +kernel) rfl
theorem tb_704 : Cond.code ⟨"StretchedCarpet", "waysToWave", "(III)I"⟩ prog_1_method_36_code 6 (Option.some .int) ∈ TB := tb_of (i := 704) (by decide +kernel) rfl
theorem tb_705 : Cond.methodLink "StretchedCarpet" 284 ⟨"java/lang/Math", "max", "(II)I"⟩ ∈ TB := tb_of (i := 705) (by decide +kernel) rfl
theorem tb_706 : Cond.methodLink "StretchedCarpet" 250 ⟨"StretchedCarpet", "power", "(II)I"⟩ ∈ TB := tb_of (i := 706) (by decide +kernel) rfl
theorem tb_707 : Cond.static ⟨"StretchedCarpet", "power", "(II)I"⟩ ∈ TB := tb_of (i := 707) (by decide +kernel) rfl
theorem tb_708 : Cond.code ⟨"StretchedCarpet", "power", "(II)I"⟩ prog_1_method_34_code 4 (Option.some .int) ∈ TB := tb_of (i := 708) (by decide +kernel) rfl
theorem tb_709 : Cond.methodLink "StretchedCarpet" 253 ⟨"StretchedCarpet", "commonDivisor", "(II)I"⟩ ∈ TB := tb_of (i := 709) (by decide +kernel) rfl
theorem tb_710 : Cond.static ⟨"StretchedCarpet", "commonDivisor", "(II)I"⟩ ∈ TB := tb_of (i := 710) (by decide +kernel) rfl
theorem tb_711 : Cond.code ⟨"StretchedCarpet", "commonDivisor", "(II)I"⟩ prog_1_method_35_code 6 (Option.some .int) ∈ TB := tb_of (i := 711) (by decide +kernel) rfl
theorem tb_712 : Cond.methodLink "StretchedCarpetLaw" 109 ⟨"StretchedCarpet", "year", "(III)I"⟩ ∈ TB := tb_of (i := 712) (by decide +kernel) rfl
theorem tb_713 : Cond.instanceMethod ⟨"StretchedCarpet", "year", "(III)I"⟩ ∈ TB := tb_of (i := 713) (by decide +kernel) rfl
theorem tb_714 : Cond.selects "StretchedCarpet" ⟨"StretchedCarpet", "year", "(III)I"⟩ ⟨"StretchedCarpet", "year", "(III)I"⟩ ∈ TB := tb_of (i := 714) (by decide +kernel) rfl
theorem tb_715 : Cond.code ⟨"StretchedCarpet", "year", "(III)I"⟩ prog_1_method_25_code 5 (Option.some .int) ∈ TB := tb_of (i := 715) (by decide +kernel) rfl
theorem tb_716 : Cond.methodLink "StretchedCarpet" 256 ⟨"StretchedCarpet$Carpet", "copyFrom", "(LStretchedCarpet$Carpet;)V"⟩ ∈ TB := tb_of (i := 716) (by decide +kernel) rfl
theorem tb_717 : Cond.methodLink "StretchedCarpet" 259 ⟨"StretchedCarpet", "draw", "(II)I"⟩ ∈ TB := tb_of (i := 717) (by decide +kernel) rfl
theorem tb_718 : Cond.static ⟨"StretchedCarpet", "draw", "(II)I"⟩ ∈ TB := tb_of (i := 718) (by decide +kernel) rfl
theorem tb_719 : Cond.code ⟨"StretchedCarpet", "draw", "(II)I"⟩ prog_1_method_37_code 4 (Option.some .int) ∈ TB := tb_of (i := 719) (by decide +kernel) rfl
theorem tb_720 : Cond.constantLong "StretchedCarpet" 290 (lI (7919)) ∈ TB := tb_of (i := 720) (by decide +kernel) rfl
theorem tb_721 : Cond.constantLong "StretchedCarpet" 292 (lI (6151)) ∈ TB := tb_of (i := 721) (by decide +kernel) rfl
theorem tb_722 : Cond.constantLong "StretchedCarpet" 294 (lI (65521)) ∈ TB := tb_of (i := 722) (by decide +kernel) rfl
theorem tb_723 : Cond.constantLong "StretchedCarpet" 296 (lI (2)) ∈ TB := tb_of (i := 723) (by decide +kernel) rfl
theorem tb_724 : Cond.methodLink "StretchedCarpet" 262 ⟨"StretchedCarpet$Carpet", "takeStep", "(LStretchedCarpet$Room;I)V"⟩ ∈ TB := tb_of (i := 724) (by decide +kernel) rfl
theorem tb_725 : Cond.instanceMethod ⟨"StretchedCarpet$Carpet", "takeStep", "(LStretchedCarpet$Room;I)V"⟩ ∈ TB := tb_of (i := 725) (by decide +kernel) rfl
theorem tb_726 : Cond.selects "StretchedCarpet$Carpet" ⟨"StretchedCarpet$Carpet", "takeStep", "(LStretchedCarpet$Room;I)V"⟩ ⟨"StretchedCarpet$Carpet", "takeStep", "(LStretchedCarpet$Room;I)V"⟩ ∈ TB := tb_of (i := 726) (by decide +kernel) rfl
theorem tb_727 : Cond.code ⟨"StretchedCarpet$Carpet", "takeStep", "(LStretchedCarpet$Room;I)V"⟩ prog_2_method_23_code 4 (Option.none : Option Jvm.ClassFile.FieldType) ∈ TB := tb_of (i := 727) (by decide +kernel) rfl
theorem tb_728 : Cond.methodLink "StretchedCarpet$Carpet" 109 ⟨"StretchedCarpet$Carpet", "unhook", "(I)I"⟩ ∈ TB := tb_of (i := 728) (by decide +kernel) rfl
theorem tb_729 : Cond.methodLink "StretchedCarpet$Carpet" 112 ⟨"StretchedCarpet$Carpet", "isFree", "(I)Z"⟩ ∈ TB := tb_of (i := 729) (by decide +kernel) rfl
theorem tb_730 : Cond.methodLink "StretchedCarpet$Carpet" 115 ⟨"StretchedCarpet$Carpet", "hookOn", "(LStretchedCarpet$Room;II)I"⟩ ∈ TB := tb_of (i := 730) (by decide +kernel) rfl
theorem tb_731 : Cond.methodLink "StretchedCarpet$Carpet" 118 ⟨"StretchedCarpet$Carpet", "passMonth", "(LStretchedCarpet$Room;)V"⟩ ∈ TB := tb_of (i := 731) (by decide +kernel) rfl
theorem tb_732 : Cond.methodLink "StretchedCarpet" 269 ⟨"java/lang/Integer", "bitCount", "(I)I"⟩ ∈ TB := tb_of (i := 732) (by decide +kernel) rfl
theorem tb_733 : Cond.methodLink "StretchedCarpet" 274 ⟨"StretchedCarpet$Carpet", "tightnessInAll", "()I"⟩ ∈ TB := tb_of (i := 733) (by decide +kernel) rfl
theorem tb_734 : Cond.instanceMethod ⟨"StretchedCarpet$Carpet", "tightnessInAll", "()I"⟩ ∈ TB := tb_of (i := 734) (by decide +kernel) rfl
theorem tb_735 : Cond.selects "StretchedCarpet$Carpet" ⟨"StretchedCarpet$Carpet", "tightnessInAll", "()I"⟩ ⟨"StretchedCarpet$Carpet", "tightnessInAll", "()I"⟩ ∈ TB := tb_of (i := 735) (by decide +kernel) rfl
theorem tb_736 : Cond.code ⟨"StretchedCarpet$Carpet", "tightnessInAll", "()I"⟩ prog_2_method_16_code 3 (Option.some .int) ∈ TB := tb_of (i := 736) (by decide +kernel) rfl
theorem tb_737 : Cond.methodLink "StretchedCarpetLaw" 114 ⟨"StretchedCarpet", "keep", "()I"⟩ ∈ TB := tb_of (i := 737) (by decide +kernel) rfl
theorem tb_738 : Cond.instanceMethod ⟨"StretchedCarpet", "keep", "()I"⟩ ∈ TB := tb_of (i := 738) (by decide +kernel) rfl
theorem tb_739 : Cond.selects "StretchedCarpet" ⟨"StretchedCarpet", "keep", "()I"⟩ ⟨"StretchedCarpet", "keep", "()I"⟩ ∈ TB := tb_of (i := 739) (by decide +kernel) rfl
theorem tb_740 : Cond.code ⟨"StretchedCarpet", "keep", "()I"⟩ prog_1_method_26_code 1 (Option.some .int) ∈ TB := tb_of (i := 740) (by decide +kernel) rfl
theorem tb_741 : Cond.methodLink "StretchedCarpet" 277 ⟨"StretchedCarpet$Shelf", "isFull", "()Z"⟩ ∈ TB := tb_of (i := 741) (by decide +kernel) rfl
theorem tb_742 : Cond.instanceMethod ⟨"StretchedCarpet$Shelf", "isFull", "()Z"⟩ ∈ TB := tb_of (i := 742) (by decide +kernel) rfl
theorem tb_743 : Cond.selects "StretchedCarpet$Shelf" ⟨"StretchedCarpet$Shelf", "isFull", "()Z"⟩ ⟨"StretchedCarpet$Shelf", "isFull", "()Z"⟩ ∈ TB := tb_of (i := 743) (by decide +kernel) rfl
theorem tb_744 : Cond.code ⟨"StretchedCarpet$Shelf", "isFull", "()Z"⟩ prog_6_method_3_code 1 (Option.some .boolean) ∈ TB := tb_of (i := 744) (by decide +kernel) rfl
theorem tb_745 : Cond.methodLink "StretchedCarpetLaw" 118 ⟨"StretchedCarpet", "back", "()I"⟩ ∈ TB := tb_of (i := 745) (by decide +kernel) rfl
theorem tb_746 : Cond.instanceMethod ⟨"StretchedCarpet", "back", "()I"⟩ ∈ TB := tb_of (i := 746) (by decide +kernel) rfl
theorem tb_747 : Cond.selects "StretchedCarpet" ⟨"StretchedCarpet", "back", "()I"⟩ ⟨"StretchedCarpet", "back", "()I"⟩ ∈ TB := tb_of (i := 747) (by decide +kernel) rfl
theorem tb_748 : Cond.code ⟨"StretchedCarpet", "back", "()I"⟩ prog_1_method_27_code 1 (Option.some .int) ∈ TB := tb_of (i := 748) (by decide +kernel) rfl
theorem tb_749 : Cond.methodLink "StretchedCarpetLaw" 122 ⟨"StretchedCarpet", "count", "(I)I"⟩ ∈ TB := tb_of (i := 749) (by decide +kernel) rfl
theorem tb_750 : Cond.instanceMethod ⟨"StretchedCarpet", "count", "(I)I"⟩ ∈ TB := tb_of (i := 750) (by decide +kernel) rfl
theorem tb_751 : Cond.selects "StretchedCarpet" ⟨"StretchedCarpet", "count", "(I)I"⟩ ⟨"StretchedCarpet", "count", "(I)I"⟩ ∈ TB := tb_of (i := 751) (by decide +kernel) rfl
theorem tb_752 : Cond.code ⟨"StretchedCarpet", "count", "(I)I"⟩ prog_1_method_28_code 2 (Option.some .int) ∈ TB := tb_of (i := 752) (by decide +kernel) rfl
theorem tb_753 : Cond.classLink "StretchedCarpetLaw" 10 "StretchedCarpetModel" ∈ TB := tb_of (i := 753) (by decide +kernel) rfl
theorem tb_754 : Cond.instantiable "StretchedCarpetModel" 27 ∈ TB := tb_of (i := 754) (by decide +kernel) rfl
theorem tb_755 : Cond.methodLink "StretchedCarpetLaw" 12 ⟨"StretchedCarpetModel", "<init>", "()V"⟩ ∈ TB := tb_of (i := 755) (by decide +kernel) rfl
theorem tb_756 : Cond.instanceMethod ⟨"StretchedCarpetModel", "<init>", "()V"⟩ ∈ TB := tb_of (i := 756) (by decide +kernel) rfl
theorem tb_757 : Cond.code ⟨"StretchedCarpetModel", "<init>", "()V"⟩ prog_9_method_1_code 1 (Option.none : Option Jvm.ClassFile.FieldType) ∈ TB := tb_of (i := 757) (by decide +kernel) rfl
theorem tb_758 : Cond.methodLink "StretchedCarpetModel" 1 ⟨"java/lang/Object", "<init>", "()V"⟩ ∈ TB := tb_of (i := 758) (by decide +kernel) rfl
theorem tb_759 : Cond.methodLink "StretchedCarpetModel" 52 ⟨"StretchedCarpetModel", "addStrip", "(IIII)V"⟩ ∈ TB := tb_of (i := 759) (by decide +kernel) rfl
theorem tb_761 : Cond.instanceMethod ⟨"StretchedCarpetModel", "addStrip", "(IIII)V"⟩ ∈ TB := tb_of (i := 761) (by decide +kernel) rfl
theorem tb_762 : Cond.code ⟨"StretchedCarpetModel", "addStrip", "(IIII)V"⟩ prog_9_method_2_code 5 (Option.none : Option Jvm.ClassFile.FieldType) ∈ TB := tb_of (i := 762) (by decide +kernel) rfl
theorem tb_763 : Cond.fieldLink "StretchedCarpetModel" 67 "StretchedCarpetModel" "letters" "I" ∈ TB := tb_of (i := 763) (by decide +kernel) rfl
theorem tb_764 : Cond.fieldLink "StretchedCarpetModel" 7 "StretchedCarpetModel" "text" "[I" ∈ TB := tb_of (i := 764) (by decide +kernel) rfl
theorem tb_765 : Cond.fieldLink "StretchedCarpetModel" 73 "StretchedCarpetModel" "position" "I" ∈ TB := tb_of (i := 765) (by decide +kernel) rfl
theorem tb_766 : Cond.fieldLink "StretchedCarpetModel" 70 "StretchedCarpetModel" "number" "I" ∈ TB := tb_of (i := 766) (by decide +kernel) rfl
theorem tb_767 : Cond.fieldLink "StretchedCarpetModel" 80 "StretchedCarpetModel" "readMany" "I" ∈ TB := tb_of (i := 767) (by decide +kernel) rfl
theorem tb_768 : Cond.fieldLink "StretchedCarpetModel" 86 "StretchedCarpetModel" "readDamps" "I" ∈ TB := tb_of (i := 768) (by decide +kernel) rfl
theorem tb_769 : Cond.fieldLink "StretchedCarpetModel" 13 "StretchedCarpetModel" "readStrip" "[I" ∈ TB := tb_of (i := 769) (by decide +kernel) rfl
theorem tb_770 : Cond.fieldLink "StretchedCarpetModel" 16 "StretchedCarpetModel" "readDamp" "[I" ∈ TB := tb_of (i := 770) (by decide +kernel) rfl
theorem tb_771 : Cond.fieldLink "StretchedCarpetModel" 19 "StretchedCarpetModel" "readLaw" "[I" ∈ TB := tb_of (i := 771) (by decide +kernel) rfl
theorem tb_772 : Cond.fieldLink "StretchedCarpetModel" 56 "StretchedCarpetModel" "many" "I" ∈ TB := tb_of (i := 772) (by decide +kernel) rfl
theorem tb_773 : Cond.fieldLink "StretchedCarpetModel" 60 "StretchedCarpetModel" "damps" "I" ∈ TB := tb_of (i := 773) (by decide +kernel) rfl
theorem tb_774 : Cond.fieldLink "StretchedCarpetModel" 22 "StretchedCarpetModel" "strip" "[I" ∈ TB := tb_of (i := 774) (by decide +kernel) rfl
theorem tb_775 : Cond.fieldLink "StretchedCarpetModel" 25 "StretchedCarpetModel" "dampOf" "[I" ∈ TB := tb_of (i := 775) (by decide +kernel) rfl
theorem tb_776 : Cond.fieldLink "StretchedCarpetModel" 28 "StretchedCarpetModel" "law" "[I" ∈ TB := tb_of (i := 776) (by decide +kernel) rfl
theorem tb_777 : Cond.fieldLink "StretchedCarpetModel" 31 "StretchedCarpetModel" "now" "[I" ∈ TB := tb_of (i := 777) (by decide +kernel) rfl
theorem tb_778 : Cond.fieldLink "StretchedCarpetModel" 34 "StretchedCarpetModel" "tried" "[I" ∈ TB := tb_of (i := 778) (by decide +kernel) rfl
theorem tb_779 : Cond.fieldLink "StretchedCarpetModel" 37 "StretchedCarpetModel" "backOf" "[I" ∈ TB := tb_of (i := 779) (by decide +kernel) rfl
theorem tb_780 : Cond.fieldLink "StretchedCarpetModel" 117 "StretchedCarpetModel" "backs" "I" ∈ TB := tb_of (i := 780) (by decide +kernel) rfl
theorem tb_781 : Cond.fieldLink "StretchedCarpetModel" 40 "StretchedCarpetModel" "kept" "[I" ∈ TB := tb_of (i := 781) (by decide +kernel) rfl
theorem tb_782 : Cond.fieldLink "StretchedCarpetModel" 120 "StretchedCarpetModel" "keptMany" "I" ∈ TB := tb_of (i := 782) (by decide +kernel) rfl
theorem tb_783 : Cond.fieldLink "StretchedCarpetModel" 114 "StretchedCarpetModel" "sights" "I" ∈ TB := tb_of (i := 783) (by decide +kernel) rfl
theorem tb_784 : Cond.fieldLink "StretchedCarpetModel" 43 "StretchedCarpetModel" "sight" "[I" ∈ TB := tb_of (i := 784) (by decide +kernel) rfl
theorem tb_785 : Cond.fieldLink "StretchedCarpetModel" 46 "StretchedCarpetModel" "row" "[I" ∈ TB := tb_of (i := 785) (by decide +kernel) rfl
theorem tb_786 : Cond.fieldLink "StretchedCarpetModel" 49 "StretchedCarpetModel" "bestRow" "[I" ∈ TB := tb_of (i := 786) (by decide +kernel) rfl
theorem tb_787 : Cond.fieldLink "StretchedCarpetModel" 193 "StretchedCarpetModel" "bestMany" "I" ∈ TB := tb_of (i := 787) (by decide +kernel) rfl
theorem tb_788 : Cond.fieldLink "StretchedCarpetModel" 183 "StretchedCarpetModel" "bestCut" "I" ∈ TB := tb_of (i := 788) (by decide +kernel) rfl
theorem tb_789 : Cond.fieldLink "StretchedCarpetModel" 186 "StretchedCarpetModel" "bestSeams" "I" ∈ TB := tb_of (i := 789) (by decide +kernel) rfl
theorem tb_845 : Cond.methodLink "StretchedCarpetLaw" 17 ⟨"StretchedCarpetModel", "write", "(I)I"⟩ ∈ TB := tb_of (i := 845) (by decide +kernel) rfl
theorem tb_846 : Cond.instanceMethod ⟨"StretchedCarpetModel", "write", "(I)I"⟩ ∈ TB := tb_of (i := 846) (by decide +kernel) rfl
theorem tb_847 : Cond.selects "StretchedCarpetModel" ⟨"StretchedCarpetModel", "write", "(I)I"⟩ ⟨"StretchedCarpetModel", "write", "(I)I"⟩ ∈ TB := tb_of (i := 847) (by decide +kernel) rfl
theorem tb_848 : Cond.code ⟨"StretchedCarpetModel", "write", "(I)I"⟩ prog_9_method_7_code 2 (Option.some .int) ∈ TB := tb_of (i := 848) (by decide +kernel) rfl
theorem tb_849 : Cond.methodLink "StretchedCarpetModel" 63 ⟨"StretchedCarpetModel", "in", "(III)Z"⟩ ∈ TB := tb_of (i := 849) (by decide +kernel) rfl
theorem tb_850 : Cond.static ⟨"StretchedCarpetModel", "in", "(III)Z"⟩ ∈ TB := tb_of (i := 850) (by decide +kernel) rfl
theorem tb_851 : Cond.code ⟨"StretchedCarpetModel", "in", "(III)Z"⟩ prog_9_method_3_code 3 (Option.some .boolean) ∈ TB := tb_of (i := 851) (by decide +kernel) rfl
theorem tb_852 : Cond.methodLink "StretchedCarpetLaw" 22 ⟨"StretchedCarpetModel", "wipe", "()I"⟩ ∈ TB := tb_of (i := 852) (by decide +kernel) rfl
theorem tb_853 : Cond.instanceMethod ⟨"StretchedCarpetModel", "wipe", "()I"⟩ ∈ TB := tb_of (i := 853) (by decide +kernel) rfl
theorem tb_854 : Cond.selects "StretchedCarpetModel" ⟨"StretchedCarpetModel", "wipe", "()I"⟩ ⟨"StretchedCarpetModel", "wipe", "()I"⟩ ∈ TB := tb_of (i := 854) (by decide +kernel) rfl
theorem tb_855 : Cond.code ⟨"StretchedCarpetModel", "wipe", "()I"⟩ prog_9_method_8_code 2 (Option.some .int) ∈ TB := tb_of (i := 855) (by decide +kernel) rfl
theorem tb_856 : Cond.methodLink "StretchedCarpetLaw" 26 ⟨"StretchedCarpetModel", "fault", "()I"⟩ ∈ TB := tb_of (i := 856) (by decide +kernel) rfl
theorem tb_857 : Cond.instanceMethod ⟨"StretchedCarpetModel", "fault", "()I"⟩ ∈ TB := tb_of (i := 857) (by decide +kernel) rfl
theorem tb_858 : Cond.selects "StretchedCarpetModel" ⟨"StretchedCarpetModel", "fault", "()I"⟩ ⟨"StretchedCarpetModel", "fault", "()I"⟩ ∈ TB := tb_of (i := 858) (by decide +kernel) rfl
theorem tb_859 : Cond.code ⟨"StretchedCarpetModel", "fault", "()I"⟩ prog_9_method_16_code 2 (Option.some .int) ∈ TB := tb_of (i := 859) (by decide +kernel) rfl
theorem tb_860 : Cond.methodLink "StretchedCarpetModel" 103 ⟨"StretchedCarpetModel", "isItem", "()Z"⟩ ∈ TB := tb_of (i := 860) (by decide +kernel) rfl
theorem tb_862 : Cond.instanceMethod ⟨"StretchedCarpetModel", "isItem", "()Z"⟩ ∈ TB := tb_of (i := 862) (by decide +kernel) rfl
theorem tb_863 : Cond.code ⟨"StretchedCarpetModel", "isItem", "()Z"⟩ prog_9_method_15_code 2 (Option.some .boolean) ∈ TB := tb_of (i := 863) (by decide +kernel) rfl
theorem tb_864 : Cond.methodLink "StretchedCarpetModel" 76 ⟨"StretchedCarpetModel", "letterAt", "(I)I"⟩ ∈ TB := tb_of (i := 864) (by decide +kernel) rfl
theorem tb_866 : Cond.instanceMethod ⟨"StretchedCarpetModel", "letterAt", "(I)I"⟩ ∈ TB := tb_of (i := 866) (by decide +kernel) rfl
theorem tb_867 : Cond.code ⟨"StretchedCarpetModel", "letterAt", "(I)I"⟩ prog_9_method_9_code 2 (Option.some .int) ∈ TB := tb_of (i := 867) (by decide +kernel) rfl
theorem tb_868 : Cond.methodLink "StretchedCarpetModel" 89 ⟨"StretchedCarpetModel", "isStripItem", "()Z"⟩ ∈ TB := tb_of (i := 868) (by decide +kernel) rfl
theorem tb_870 : Cond.instanceMethod ⟨"StretchedCarpetModel", "isStripItem", "()Z"⟩ ∈ TB := tb_of (i := 870) (by decide +kernel) rfl
theorem tb_871 : Cond.code ⟨"StretchedCarpetModel", "isStripItem", "()Z"⟩ prog_9_method_11_code 3 (Option.some .boolean) ∈ TB := tb_of (i := 871) (by decide +kernel) rfl
theorem tb_872 : Cond.methodLink "StretchedCarpetModel" 83 ⟨"StretchedCarpetModel", "isNumber", "(III)Z"⟩ ∈ TB := tb_of (i := 872) (by decide +kernel) rfl
theorem tb_874 : Cond.instanceMethod ⟨"StretchedCarpetModel", "isNumber", "(III)Z"⟩ ∈ TB := tb_of (i := 874) (by decide +kernel) rfl
theorem tb_875 : Cond.code ⟨"StretchedCarpetModel", "isNumber", "(III)Z"⟩ prog_9_method_10_code 5 (Option.some .boolean) ∈ TB := tb_of (i := 875) (by decide +kernel) rfl
theorem tb_876 : Cond.methodLink "StretchedCarpetModel" 93 ⟨"StretchedCarpetModel", "isPair", "(IIIII)Z"⟩ ∈ TB := tb_of (i := 876) (by decide +kernel) rfl
theorem tb_878 : Cond.instanceMethod ⟨"StretchedCarpetModel", "isPair", "(IIIII)Z"⟩ ∈ TB := tb_of (i := 878) (by decide +kernel) rfl
theorem tb_879 : Cond.code ⟨"StretchedCarpetModel", "isPair", "(IIIII)Z"⟩ prog_9_method_13_code 7 (Option.some .boolean) ∈ TB := tb_of (i := 879) (by decide +kernel) rfl
theorem tb_880 : Cond.methodLink "StretchedCarpetModel" 97 ⟨"StretchedCarpetModel", "isOne", "(III)Z"⟩ ∈ TB := tb_of (i := 880) (by decide +kernel) rfl
theorem tb_882 : Cond.instanceMethod ⟨"StretchedCarpetModel", "isOne", "(III)Z"⟩ ∈ TB := tb_of (i := 882) (by decide +kernel) rfl
theorem tb_883 : Cond.code ⟨"StretchedCarpetModel", "isOne", "(III)Z"⟩ prog_9_method_14_code 4 (Option.some .boolean) ∈ TB := tb_of (i := 883) (by decide +kernel) rfl
theorem tb_884 : Cond.methodLink "StretchedCarpetModel" 100 ⟨"StretchedCarpetModel", "isDampItem", "()Z"⟩ ∈ TB := tb_of (i := 884) (by decide +kernel) rfl
theorem tb_886 : Cond.instanceMethod ⟨"StretchedCarpetModel", "isDampItem", "()Z"⟩ ∈ TB := tb_of (i := 886) (by decide +kernel) rfl
theorem tb_887 : Cond.code ⟨"StretchedCarpetModel", "isDampItem", "()Z"⟩ prog_9_method_12_code 1 (Option.some .boolean) ∈ TB := tb_of (i := 887) (by decide +kernel) rfl
theorem tb_888 : Cond.methodLink "StretchedCarpetLaw" 30 ⟨"StretchedCarpetModel", "lay", "()I"⟩ ∈ TB := tb_of (i := 888) (by decide +kernel) rfl
theorem tb_889 : Cond.instanceMethod ⟨"StretchedCarpetModel", "lay", "()I"⟩ ∈ TB := tb_of (i := 889) (by decide +kernel) rfl
theorem tb_890 : Cond.selects "StretchedCarpetModel" ⟨"StretchedCarpetModel", "lay", "()I"⟩ ⟨"StretchedCarpetModel", "lay", "()I"⟩ ∈ TB := tb_of (i := 890) (by decide +kernel) rfl
theorem tb_891 : Cond.code ⟨"StretchedCarpetModel", "lay", "()I"⟩ prog_9_method_17_code 2 (Option.some .int) ∈ TB := tb_of (i := 891) (by decide +kernel) rfl
theorem tb_892 : Cond.methodLink "StretchedCarpetModel" 106 ⟨"StretchedCarpetModel", "fault", "()I"⟩ ∈ TB := tb_of (i := 892) (by decide +kernel) rfl
theorem tb_893 : Cond.methodLink "StretchedCarpetModel" 110 ⟨"StretchedCarpetModel", "bring", "([II[III)V"⟩ ∈ TB := tb_of (i := 893) (by decide +kernel) rfl
theorem tb_894 : Cond.static ⟨"StretchedCarpetModel", "bring", "([II[III)V"⟩ ∈ TB := tb_of (i := 894) (by decide +kernel) rfl
theorem tb_895 : Cond.code ⟨"StretchedCarpetModel", "bring", "([II[III)V"⟩ prog_9_method_6_code 6 (Option.none : Option Jvm.ClassFile.FieldType) ∈ TB := tb_of (i := 895) (by decide +kernel) rfl
theorem tb_896 : Cond.methodLink "StretchedCarpetLaw" 35 ⟨"StretchedCarpetModel", "strip", "(II)I"⟩ ∈ TB := tb_of (i := 896) (by decide +kernel) rfl
theorem tb_897 : Cond.instanceMethod ⟨"StretchedCarpetModel", "strip", "(II)I"⟩ ∈ TB := tb_of (i := 897) (by decide +kernel) rfl
theorem tb_898 : Cond.selects "StretchedCarpetModel" ⟨"StretchedCarpetModel", "strip", "(II)I"⟩ ⟨"StretchedCarpetModel", "strip", "(II)I"⟩ ∈ TB := tb_of (i := 898) (by decide +kernel) rfl
theorem tb_899 : Cond.code ⟨"StretchedCarpetModel", "strip", "(II)I"⟩ prog_9_method_21_code 5 (Option.some .int) ∈ TB := tb_of (i := 899) (by decide +kernel) rfl
theorem tb_900 : Cond.methodLink "StretchedCarpetModel" 123 ⟨"StretchedCarpetModel", "lengthOf", "(I)I"⟩ ∈ TB := tb_of (i := 900) (by decide +kernel) rfl
theorem tb_902 : Cond.instanceMethod ⟨"StretchedCarpetModel", "lengthOf", "(I)I"⟩ ∈ TB := tb_of (i := 902) (by decide +kernel) rfl
theorem tb_903 : Cond.code ⟨"StretchedCarpetModel", "lengthOf", "(I)I"⟩ prog_9_method_20_code 4 (Option.some .int) ∈ TB := tb_of (i := 903) (by decide +kernel) rfl
theorem tb_904 : Cond.methodLink "StretchedCarpetLaw" 39 ⟨"StretchedCarpetModel", "wall", "(II)I"⟩ ∈ TB := tb_of (i := 904) (by decide +kernel) rfl
theorem tb_905 : Cond.instanceMethod ⟨"StretchedCarpetModel", "wall", "(II)I"⟩ ∈ TB := tb_of (i := 905) (by decide +kernel) rfl
theorem tb_906 : Cond.selects "StretchedCarpetModel" ⟨"StretchedCarpetModel", "wall", "(II)I"⟩ ⟨"StretchedCarpetModel", "wall", "(II)I"⟩ ∈ TB := tb_of (i := 906) (by decide +kernel) rfl
theorem tb_907 : Cond.code ⟨"StretchedCarpetModel", "wall", "(II)I"⟩ prog_9_method_23_code 3 (Option.some .int) ∈ TB := tb_of (i := 907) (by decide +kernel) rfl
theorem tb_908 : Cond.methodLink "StretchedCarpetModel" 130 ⟨"StretchedCarpetModel", "isHooked", "([II)Z"⟩ ∈ TB := tb_of (i := 908) (by decide +kernel) rfl
theorem tb_909 : Cond.static ⟨"StretchedCarpetModel", "isHooked", "([II)Z"⟩ ∈ TB := tb_of (i := 909) (by decide +kernel) rfl
theorem tb_910 : Cond.code ⟨"StretchedCarpetModel", "isHooked", "([II)Z"⟩ prog_9_method_22_code 2 (Option.some .boolean) ∈ TB := tb_of (i := 910) (by decide +kernel) rfl
theorem tb_911 : Cond.methodLink "StretchedCarpetModel" 126 ⟨"StretchedCarpetModel", "has", "(II)Z"⟩ ∈ TB := tb_of (i := 911) (by decide +kernel) rfl
theorem tb_912 : Cond.static ⟨"StretchedCarpetModel", "has", "(II)Z"⟩ ∈ TB := tb_of (i := 912) (by decide +kernel) rfl
theorem tb_913 : Cond.code ⟨"StretchedCarpetModel", "has", "(II)Z"⟩ prog_9_method_4_code 2 (Option.some .boolean) ∈ TB := tb_of (i := 913) (by decide +kernel) rfl
theorem tb_914 : Cond.methodLink "StretchedCarpetLaw" 43 ⟨"StretchedCarpetModel", "damp", "(I)I"⟩ ∈ TB := tb_of (i := 914) (by decide +kernel) rfl
theorem tb_915 : Cond.instanceMethod ⟨"StretchedCarpetModel", "damp", "(I)I"⟩ ∈ TB := tb_of (i := 915) (by decide +kernel) rfl
theorem tb_916 : Cond.selects "StretchedCarpetModel" ⟨"StretchedCarpetModel", "damp", "(I)I"⟩ ⟨"StretchedCarpetModel", "damp", "(I)I"⟩ ∈ TB := tb_of (i := 916) (by decide +kernel) rfl
theorem tb_917 : Cond.code ⟨"StretchedCarpetModel", "damp", "(I)I"⟩ prog_9_method_25_code 2 (Option.some .int) ∈ TB := tb_of (i := 917) (by decide +kernel) rfl
theorem tb_918 : Cond.methodLink "StretchedCarpetModel" 134 ⟨"StretchedCarpetModel", "dampBy", "(I)I"⟩ ∈ TB := tb_of (i := 918) (by decide +kernel) rfl
theorem tb_920 : Cond.instanceMethod ⟨"StretchedCarpetModel", "dampBy", "(I)I"⟩ ∈ TB := tb_of (i := 920) (by decide +kernel) rfl
theorem tb_921 : Cond.code ⟨"StretchedCarpetModel", "dampBy", "(I)I"⟩ prog_9_method_24_code 2 (Option.some .int) ∈ TB := tb_of (i := 921) (by decide +kernel) rfl
theorem tb_922 : Cond.methodLink "StretchedCarpetLaw" 47 ⟨"StretchedCarpetModel", "cut", "(I)I"⟩ ∈ TB := tb_of (i := 922) (by decide +kernel) rfl
theorem tb_923 : Cond.instanceMethod ⟨"StretchedCarpetModel", "cut", "(I)I"⟩ ∈ TB := tb_of (i := 923) (by decide +kernel) rfl
theorem tb_924 : Cond.selects "StretchedCarpetModel" ⟨"StretchedCarpetModel", "cut", "(I)I"⟩ ⟨"StretchedCarpetModel", "cut", "(I)I"⟩ ∈ TB := tb_of (i := 924) (by decide +kernel) rfl
theorem tb_925 : Cond.code ⟨"StretchedCarpetModel", "cut", "(I)I"⟩ prog_9_method_28_code 4 (Option.some .int) ∈ TB := tb_of (i := 925) (by decide +kernel) rfl
theorem tb_926 : Cond.methodLink "StretchedCarpetModel" 137 ⟨"StretchedCarpetModel", "coveredIn", "([I)I"⟩ ∈ TB := tb_of (i := 926) (by decide +kernel) rfl
theorem tb_927 : Cond.static ⟨"StretchedCarpetModel", "coveredIn", "([I)I"⟩ ∈ TB := tb_of (i := 927) (by decide +kernel) rfl
theorem tb_928 : Cond.code ⟨"StretchedCarpetModel", "coveredIn", "([I)I"⟩ prog_9_method_18_code 3 (Option.some .int) ∈ TB := tb_of (i := 928) (by decide +kernel) rfl
theorem tb_929 : Cond.methodLink "StretchedCarpetModel" 141 ⟨"StretchedCarpetModel", "longFor", "(II)I"⟩ ∈ TB := tb_of (i := 929) (by decide +kernel) rfl
theorem tb_931 : Cond.instanceMethod ⟨"StretchedCarpetModel", "longFor", "(II)I"⟩ ∈ TB := tb_of (i := 931) (by decide +kernel) rfl
theorem tb_932 : Cond.code ⟨"StretchedCarpetModel", "longFor", "(II)I"⟩ prog_9_method_27_code 5 (Option.some .int) ∈ TB := tb_of (i := 932) (by decide +kernel) rfl
theorem tb_933 : Cond.methodLink "StretchedCarpetModel" 145 ⟨"StretchedCarpetModel", "rollIn", "([I)I"⟩ ∈ TB := tb_of (i := 933) (by decide +kernel) rfl
theorem tb_935 : Cond.instanceMethod ⟨"StretchedCarpetModel", "rollIn", "([I)I"⟩ ∈ TB := tb_of (i := 935) (by decide +kernel) rfl
theorem tb_936 : Cond.code ⟨"StretchedCarpetModel", "rollIn", "([I)I"⟩ prog_9_method_19_code 4 (Option.some .int) ∈ TB := tb_of (i := 936) (by decide +kernel) rfl
theorem tb_937 : Cond.methodLink "StretchedCarpetModel" 148 ⟨"StretchedCarpetModel", "note", "()V"⟩ ∈ TB := tb_of (i := 937) (by decide +kernel) rfl
theorem tb_939 : Cond.instanceMethod ⟨"StretchedCarpetModel", "note", "()V"⟩ ∈ TB := tb_of (i := 939) (by decide +kernel) rfl
theorem tb_940 : Cond.code ⟨"StretchedCarpetModel", "note", "()V"⟩ prog_9_method_26_code 1 (Option.none : Option Jvm.ClassFile.FieldType) ∈ TB := tb_of (i := 940) (by decide +kernel) rfl
theorem tb_941 : Cond.methodLink "StretchedCarpetLaw" 51 ⟨"StretchedCarpetModel", "hook", "(II)I"⟩ ∈ TB := tb_of (i := 941) (by decide +kernel) rfl
theorem tb_942 : Cond.instanceMethod ⟨"StretchedCarpetModel", "hook", "(II)I"⟩ ∈ TB := tb_of (i := 942) (by decide +kernel) rfl
theorem tb_943 : Cond.selects "StretchedCarpetModel" ⟨"StretchedCarpetModel", "hook", "(II)I"⟩ ⟨"StretchedCarpetModel", "hook", "(II)I"⟩ ∈ TB := tb_of (i := 943) (by decide +kernel) rfl
theorem tb_944 : Cond.code ⟨"StretchedCarpetModel", "hook", "(II)I"⟩ prog_9_method_34_code 3 (Option.some .int) ∈ TB := tb_of (i := 944) (by decide +kernel) rfl
theorem tb_945 : Cond.methodLink "StretchedCarpetModel" 162 ⟨"StretchedCarpetModel", "isCovered", "()Z"⟩ ∈ TB := tb_of (i := 945) (by decide +kernel) rfl
theorem tb_947 : Cond.instanceMethod ⟨"StretchedCarpetModel", "isCovered", "()Z"⟩ ∈ TB := tb_of (i := 947) (by decide +kernel) rfl
theorem tb_948 : Cond.code ⟨"StretchedCarpetModel", "isCovered", "()Z"⟩ prog_9_method_33_code 1 (Option.some .boolean) ∈ TB := tb_of (i := 948) (by decide +kernel) rfl
theorem tb_949 : Cond.methodLink "StretchedCarpetModel" 165 ⟨"StretchedCarpetModel", "isFree", "([II)Z"⟩ ∈ TB := tb_of (i := 949) (by decide +kernel) rfl
theorem tb_950 : Cond.static ⟨"StretchedCarpetModel", "isFree", "([II)Z"⟩ ∈ TB := tb_of (i := 950) (by decide +kernel) rfl
theorem tb_951 : Cond.code ⟨"StretchedCarpetModel", "isFree", "([II)Z"⟩ prog_9_method_31_code 2 (Option.some .boolean) ∈ TB := tb_of (i := 951) (by decide +kernel) rfl
theorem tb_952 : Cond.methodLink "StretchedCarpetModel" 168 ⟨"StretchedCarpetModel", "kick", "([III)V"⟩ ∈ TB := tb_of (i := 952) (by decide +kernel) rfl
theorem tb_954 : Cond.instanceMethod ⟨"StretchedCarpetModel", "kick", "([III)V"⟩ ∈ TB := tb_of (i := 954) (by decide +kernel) rfl
theorem tb_955 : Cond.code ⟨"StretchedCarpetModel", "kick", "([III)V"⟩ prog_9_method_32_code 5 (Option.none : Option Jvm.ClassFile.FieldType) ∈ TB := tb_of (i := 955) (by decide +kernel) rfl
theorem tb_956 : Cond.methodLink "StretchedCarpetModel" 158 ⟨"StretchedCarpetModel", "tightBy", "([III)I"⟩ ∈ TB := tb_of (i := 956) (by decide +kernel) rfl
theorem tb_958 : Cond.instanceMethod ⟨"StretchedCarpetModel", "tightBy", "([III)I"⟩ ∈ TB := tb_of (i := 958) (by decide +kernel) rfl
theorem tb_959 : Cond.code ⟨"StretchedCarpetModel", "tightBy", "([III)I"⟩ prog_9_method_30_code 7 (Option.some .int) ∈ TB := tb_of (i := 959) (by decide +kernel) rfl
theorem tb_960 : Cond.methodLink "StretchedCarpetModel" 151 ⟨"StretchedCarpetModel", "bits", "(I)I"⟩ ∈ TB := tb_of (i := 960) (by decide +kernel) rfl
theorem tb_961 : Cond.static ⟨"StretchedCarpetModel", "bits", "(I)I"⟩ ∈ TB := tb_of (i := 961) (by decide +kernel) rfl
theorem tb_962 : Cond.code ⟨"StretchedCarpetModel", "bits", "(I)I"⟩ prog_9_method_5_code 3 (Option.some .int) ∈ TB := tb_of (i := 962) (by decide +kernel) rfl
theorem tb_963 : Cond.methodLink "StretchedCarpetModel" 154 ⟨"StretchedCarpetModel", "givesBy", "(III)I"⟩ ∈ TB := tb_of (i := 963) (by decide +kernel) rfl
theorem tb_964 : Cond.static ⟨"StretchedCarpetModel", "givesBy", "(III)I"⟩ ∈ TB := tb_of (i := 964) (by decide +kernel) rfl
theorem tb_965 : Cond.code ⟨"StretchedCarpetModel", "givesBy", "(III)I"⟩ prog_9_method_29_code 3 (Option.some .int) ∈ TB := tb_of (i := 965) (by decide +kernel) rfl
theorem tb_966 : Cond.methodLink "StretchedCarpetLaw" 55 ⟨"StretchedCarpetModel", "letGo", "(I)I"⟩ ∈ TB := tb_of (i := 966) (by decide +kernel) rfl
theorem tb_967 : Cond.instanceMethod ⟨"StretchedCarpetModel", "letGo", "(I)I"⟩ ∈ TB := tb_of (i := 967) (by decide +kernel) rfl
theorem tb_968 : Cond.selects "StretchedCarpetModel" ⟨"StretchedCarpetModel", "letGo", "(I)I"⟩ ⟨"StretchedCarpetModel", "letGo", "(I)I"⟩ ∈ TB := tb_of (i := 968) (by decide +kernel) rfl
theorem tb_969 : Cond.code ⟨"StretchedCarpetModel", "letGo", "(I)I"⟩ prog_9_method_36_code 3 (Option.some .int) ∈ TB := tb_of (i := 969) (by decide +kernel) rfl
theorem tb_970 : Cond.methodLink "StretchedCarpetModel" 172 ⟨"StretchedCarpetModel", "loosen", "([II)V"⟩ ∈ TB := tb_of (i := 970) (by decide +kernel) rfl
theorem tb_971 : Cond.static ⟨"StretchedCarpetModel", "loosen", "([II)V"⟩ ∈ TB := tb_of (i := 971) (by decide +kernel) rfl
theorem tb_972 : Cond.code ⟨"StretchedCarpetModel", "loosen", "([II)V"⟩ prog_9_method_35_code 2 (Option.none : Option Jvm.ClassFile.FieldType) ∈ TB := tb_of (i := 972) (by decide +kernel) rfl
theorem tb_973 : Cond.methodLink "StretchedCarpetLaw" 59 ⟨"StretchedCarpetModel", "pass", "(I)I"⟩ ∈ TB := tb_of (i := 973) (by decide +kernel) rfl
theorem tb_974 : Cond.instanceMethod ⟨"StretchedCarpetModel", "pass", "(I)I"⟩ ∈ TB := tb_of (i := 974) (by decide +kernel) rfl
theorem tb_975 : Cond.selects "StretchedCarpetModel" ⟨"StretchedCarpetModel", "pass", "(I)I"⟩ ⟨"StretchedCarpetModel", "pass", "(I)I"⟩ ∈ TB := tb_of (i := 975) (by decide +kernel) rfl
theorem tb_976 : Cond.code ⟨"StretchedCarpetModel", "pass", "(I)I"⟩ prog_9_method_38_code 3 (Option.some .int) ∈ TB := tb_of (i := 976) (by decide +kernel) rfl
theorem tb_977 : Cond.methodLink "StretchedCarpetModel" 176 ⟨"StretchedCarpetModel", "passMonth", "([I)V"⟩ ∈ TB := tb_of (i := 977) (by decide +kernel) rfl
theorem tb_979 : Cond.instanceMethod ⟨"StretchedCarpetModel", "passMonth", "([I)V"⟩ ∈ TB := tb_of (i := 979) (by decide +kernel) rfl
theorem tb_980 : Cond.code ⟨"StretchedCarpetModel", "passMonth", "([I)V"⟩ prog_9_method_37_code 4 (Option.none : Option Jvm.ClassFile.FieldType) ∈ TB := tb_of (i := 980) (by decide +kernel) rfl
theorem tb_981 : Cond.methodLink "StretchedCarpetLaw" 63 ⟨"StretchedCarpetModel", "undo", "()I"⟩ ∈ TB := tb_of (i := 981) (by decide +kernel) rfl
theorem tb_982 : Cond.instanceMethod ⟨"StretchedCarpetModel", "undo", "()I"⟩ ∈ TB := tb_of (i := 982) (by decide +kernel) rfl
theorem tb_983 : Cond.selects "StretchedCarpetModel" ⟨"StretchedCarpetModel", "undo", "()I"⟩ ⟨"StretchedCarpetModel", "undo", "()I"⟩ ∈ TB := tb_of (i := 983) (by decide +kernel) rfl
theorem tb_984 : Cond.code ⟨"StretchedCarpetModel", "undo", "()I"⟩ prog_9_method_39_code 1 (Option.some .int) ∈ TB := tb_of (i := 984) (by decide +kernel) rfl
theorem tb_985 : Cond.methodLink "StretchedCarpetLaw" 67 ⟨"StretchedCarpetModel", "plan", "(I)I"⟩ ∈ TB := tb_of (i := 985) (by decide +kernel) rfl
theorem tb_986 : Cond.instanceMethod ⟨"StretchedCarpetModel", "plan", "(I)I"⟩ ∈ TB := tb_of (i := 986) (by decide +kernel) rfl
theorem tb_987 : Cond.selects "StretchedCarpetModel" ⟨"StretchedCarpetModel", "plan", "(I)I"⟩ ⟨"StretchedCarpetModel", "plan", "(I)I"⟩ ∈ TB := tb_of (i := 987) (by decide +kernel) rfl
theorem tb_988 : Cond.code ⟨"StretchedCarpetModel", "plan", "(I)I"⟩ prog_9_method_44_code 2 (Option.some .int) ∈ TB := tb_of (i := 988) (by decide +kernel) rfl
theorem tb_989 : Cond.methodLink "StretchedCarpetModel" 199 ⟨"StretchedCarpetModel", "layPlan", "()V"⟩ ∈ TB := tb_of (i := 989) (by decide +kernel) rfl
theorem tb_991 : Cond.instanceMethod ⟨"StretchedCarpetModel", "layPlan", "()V"⟩ ∈ TB := tb_of (i := 991) (by decide +kernel) rfl
theorem tb_992 : Cond.code ⟨"StretchedCarpetModel", "layPlan", "()V"⟩ prog_9_method_43_code 8 (Option.none : Option Jvm.ClassFile.FieldType) ∈ TB := tb_of (i := 992) (by decide +kernel) rfl
theorem tb_993 : Cond.methodLink "StretchedCarpetModel" 196 ⟨"StretchedCarpetModel", "covers", "(II)Z"⟩ ∈ TB := tb_of (i := 993) (by decide +kernel) rfl
theorem tb_995 : Cond.instanceMethod ⟨"StretchedCarpetModel", "covers", "(II)Z"⟩ ∈ TB := tb_of (i := 995) (by decide +kernel) rfl
theorem tb_996 : Cond.code ⟨"StretchedCarpetModel", "covers", "(II)Z"⟩ prog_9_method_41_code 7 (Option.some .boolean) ∈ TB := tb_of (i := 996) (by decide +kernel) rfl
theorem tb_997 : Cond.methodLink "StretchedCarpetModel" 180 ⟨"StretchedCarpetModel", "seamAt", "(I)I"⟩ ∈ TB := tb_of (i := 997) (by decide +kernel) rfl
theorem tb_999 : Cond.instanceMethod ⟨"StretchedCarpetModel", "seamAt", "(I)I"⟩ ∈ TB := tb_of (i := 999) (by decide +kernel) rfl
theorem tb_1000 : Cond.code ⟨"StretchedCarpetModel", "seamAt", "(I)I"⟩ prog_9_method_40_code 2 (Option.some .int) ∈ TB := tb_of (i := 1000) (by decide +kernel) rfl
theorem tb_1001 : Cond.methodLink "StretchedCarpetModel" 189 ⟨"StretchedCarpetModel", "isBefore", "(I)Z"⟩ ∈ TB := tb_of (i := 1001) (by decide +kernel) rfl
theorem tb_1003 : Cond.instanceMethod ⟨"StretchedCarpetModel", "isBefore", "(I)Z"⟩ ∈ TB := tb_of (i := 1003) (by decide +kernel) rfl
theorem tb_1004 : Cond.code ⟨"StretchedCarpetModel", "isBefore", "(I)Z"⟩ prog_9_method_42_code 3 (Option.some .boolean) ∈ TB := tb_of (i := 1004) (by decide +kernel) rfl
theorem tb_1005 : Cond.methodLink "StretchedCarpetLaw" 71 ⟨"StretchedCarpetModel", "order", "(I)I"⟩ ∈ TB := tb_of (i := 1005) (by decide +kernel) rfl
theorem tb_1006 : Cond.instanceMethod ⟨"StretchedCarpetModel", "order", "(I)I"⟩ ∈ TB := tb_of (i := 1006) (by decide +kernel) rfl
theorem tb_1007 : Cond.selects "StretchedCarpetModel" ⟨"StretchedCarpetModel", "order", "(I)I"⟩ ⟨"StretchedCarpetModel", "order", "(I)I"⟩ ∈ TB := tb_of (i := 1007) (by decide +kernel) rfl
theorem tb_1008 : Cond.code ⟨"StretchedCarpetModel", "order", "(I)I"⟩ prog_9_method_49_code 2 (Option.some .int) ∈ TB := tb_of (i := 1008) (by decide +kernel) rfl
theorem tb_1009 : Cond.methodLink "StretchedCarpetModel" 211 ⟨"StretchedCarpetModel", "layOrder", "()V"⟩ ∈ TB := tb_of (i := 1009) (by decide +kernel) rfl
theorem tb_1011 : Cond.instanceMethod ⟨"StretchedCarpetModel", "layOrder", "()V"⟩ ∈ TB := tb_of (i := 1011) (by decide +kernel) rfl
theorem tb_1012 : Cond.code ⟨"StretchedCarpetModel", "layOrder", "()V"⟩ prog_9_method_47_code 8 (Option.none : Option Jvm.ClassFile.FieldType) ∈ TB := tb_of (i := 1012) (by decide +kernel) rfl
theorem tb_1013 : Cond.methodLink "StretchedCarpetModel" 202 ⟨"StretchedCarpetModel", "kicks", "(I)I"⟩ ∈ TB := tb_of (i := 1013) (by decide +kernel) rfl
theorem tb_1015 : Cond.instanceMethod ⟨"StretchedCarpetModel", "kicks", "(I)I"⟩ ∈ TB := tb_of (i := 1015) (by decide +kernel) rfl
theorem tb_1016 : Cond.code ⟨"StretchedCarpetModel", "kicks", "(I)I"⟩ prog_9_method_48_code 5 (Option.some .int) ∈ TB := tb_of (i := 1016) (by decide +kernel) rfl
theorem tb_1017 : Cond.methodLink "StretchedCarpetModel" 205 ⟨"StretchedCarpetModel", "begin", "()V"⟩ ∈ TB := tb_of (i := 1017) (by decide +kernel) rfl
theorem tb_1019 : Cond.instanceMethod ⟨"StretchedCarpetModel", "begin", "()V"⟩ ∈ TB := tb_of (i := 1019) (by decide +kernel) rfl
theorem tb_1020 : Cond.code ⟨"StretchedCarpetModel", "begin", "()V"⟩ prog_9_method_45_code 1 (Option.none : Option Jvm.ClassFile.FieldType) ∈ TB := tb_of (i := 1020) (by decide +kernel) rfl
theorem tb_1021 : Cond.methodLink "StretchedCarpetModel" 208 ⟨"StretchedCarpetModel", "leastKick", "([III)I"⟩ ∈ TB := tb_of (i := 1021) (by decide +kernel) rfl
theorem tb_1023 : Cond.instanceMethod ⟨"StretchedCarpetModel", "leastKick", "([III)I"⟩ ∈ TB := tb_of (i := 1023) (by decide +kernel) rfl
theorem tb_1024 : Cond.code ⟨"StretchedCarpetModel", "leastKick", "([III)I"⟩ prog_9_method_46_code 6 (Option.some .int) ∈ TB := tb_of (i := 1024) (by decide +kernel) rfl
theorem tb_1025 : Cond.methodLink "StretchedCarpetLaw" 75 ⟨"StretchedCarpetModel", "kickFor", "(II)I"⟩ ∈ TB := tb_of (i := 1025) (by decide +kernel) rfl
theorem tb_1026 : Cond.instanceMethod ⟨"StretchedCarpetModel", "kickFor", "(II)I"⟩ ∈ TB := tb_of (i := 1026) (by decide +kernel) rfl
theorem tb_1027 : Cond.selects "StretchedCarpetModel" ⟨"StretchedCarpetModel", "kickFor", "(II)I"⟩ ⟨"StretchedCarpetModel", "kickFor", "(II)I"⟩ ∈ TB := tb_of (i := 1027) (by decide +kernel) rfl
theorem tb_1028 : Cond.code ⟨"StretchedCarpetModel", "kickFor", "(II)I"⟩ prog_9_method_50_code 3 (Option.some .int) ∈ TB := tb_of (i := 1028) (by decide +kernel) rfl
theorem tb_1029 : Cond.methodLink "StretchedCarpetLaw" 79 ⟨"StretchedCarpetModel", "waves", "()I"⟩ ∈ TB := tb_of (i := 1029) (by decide +kernel) rfl
theorem tb_1030 : Cond.instanceMethod ⟨"StretchedCarpetModel", "waves", "()I"⟩ ∈ TB := tb_of (i := 1030) (by decide +kernel) rfl
theorem tb_1031 : Cond.selects "StretchedCarpetModel" ⟨"StretchedCarpetModel", "waves", "()I"⟩ ⟨"StretchedCarpetModel", "waves", "()I"⟩ ∈ TB := tb_of (i := 1031) (by decide +kernel) rfl
theorem tb_1032 : Cond.code ⟨"StretchedCarpetModel", "waves", "()I"⟩ prog_9_method_52_code 4 (Option.some .int) ∈ TB := tb_of (i := 1032) (by decide +kernel) rfl
theorem tb_1033 : Cond.methodLink "StretchedCarpetModel" 214 ⟨"StretchedCarpetModel", "wavesAt", "(I)I"⟩ ∈ TB := tb_of (i := 1033) (by decide +kernel) rfl
theorem tb_1035 : Cond.instanceMethod ⟨"StretchedCarpetModel", "wavesAt", "(I)I"⟩ ∈ TB := tb_of (i := 1035) (by decide +kernel) rfl
theorem tb_1036 : Cond.code ⟨"StretchedCarpetModel", "wavesAt", "(I)I"⟩ prog_9_method_51_code 3 (Option.some .int) ∈ TB := tb_of (i := 1036) (by decide +kernel) rfl
theorem tb_1037 : Cond.methodLink "StretchedCarpetLaw" 83 ⟨"StretchedCarpetModel", "longest", "()I"⟩ ∈ TB := tb_of (i := 1037) (by decide +kernel) rfl
theorem tb_1038 : Cond.instanceMethod ⟨"StretchedCarpetModel", "longest", "()I"⟩ ∈ TB := tb_of (i := 1038) (by decide +kernel) rfl
theorem tb_1039 : Cond.selects "StretchedCarpetModel" ⟨"StretchedCarpetModel", "longest", "()I"⟩ ⟨"StretchedCarpetModel", "longest", "()I"⟩ ∈ TB := tb_of (i := 1039) (by decide +kernel) rfl
theorem tb_1040 : Cond.code ⟨"StretchedCarpetModel", "longest", "()I"⟩ prog_9_method_53_code 5 (Option.some .int) ∈ TB := tb_of (i := 1040) (by decide +kernel) rfl
theorem tb_1041 : Cond.methodLink "StretchedCarpetLaw" 87 ⟨"StretchedCarpetModel", "seen", "(II)I"⟩ ∈ TB := tb_of (i := 1041) (by decide +kernel) rfl
theorem tb_1042 : Cond.instanceMethod ⟨"StretchedCarpetModel", "seen", "(II)I"⟩ ∈ TB := tb_of (i := 1042) (by decide +kernel) rfl
theorem tb_1043 : Cond.selects "StretchedCarpetModel" ⟨"StretchedCarpetModel", "seen", "(II)I"⟩ ⟨"StretchedCarpetModel", "seen", "(II)I"⟩ ∈ TB := tb_of (i := 1043) (by decide +kernel) rfl
theorem tb_1044 : Cond.code ⟨"StretchedCarpetModel", "seen", "(II)I"⟩ prog_9_method_54_code 3 (Option.some .int) ∈ TB := tb_of (i := 1044) (by decide +kernel) rfl
theorem tb_1045 : Cond.methodLink "StretchedCarpetLaw" 91 ⟨"StretchedCarpetModel", "forget", "()I"⟩ ∈ TB := tb_of (i := 1045) (by decide +kernel) rfl
theorem tb_1046 : Cond.instanceMethod ⟨"StretchedCarpetModel", "forget", "()I"⟩ ∈ TB := tb_of (i := 1046) (by decide +kernel) rfl
theorem tb_1047 : Cond.selects "StretchedCarpetModel" ⟨"StretchedCarpetModel", "forget", "()I"⟩ ⟨"StretchedCarpetModel", "forget", "()I"⟩ ∈ TB := tb_of (i := 1047) (by decide +kernel) rfl
theorem tb_1048 : Cond.code ⟨"StretchedCarpetModel", "forget", "()I"⟩ prog_9_method_55_code 2 (Option.some .int) ∈ TB := tb_of (i := 1048) (by decide +kernel) rfl
theorem tb_1049 : Cond.methodLink "StretchedCarpetLaw" 95 ⟨"StretchedCarpetModel", "may", "(I)I"⟩ ∈ TB := tb_of (i := 1049) (by decide +kernel) rfl
theorem tb_1050 : Cond.instanceMethod ⟨"StretchedCarpetModel", "may", "(I)I"⟩ ∈ TB := tb_of (i := 1050) (by decide +kernel) rfl
theorem tb_1051 : Cond.selects "StretchedCarpetModel" ⟨"StretchedCarpetModel", "may", "(I)I"⟩ ⟨"StretchedCarpetModel", "may", "(I)I"⟩ ∈ TB := tb_of (i := 1051) (by decide +kernel) rfl
theorem tb_1052 : Cond.code ⟨"StretchedCarpetModel", "may", "(I)I"⟩ prog_9_method_57_code 5 (Option.some .int) ∈ TB := tb_of (i := 1052) (by decide +kernel) rfl
theorem tb_1053 : Cond.methodLink "StretchedCarpetModel" 217 ⟨"StretchedCarpetModel", "isSo", "(II)Z"⟩ ∈ TB := tb_of (i := 1053) (by decide +kernel) rfl
theorem tb_1055 : Cond.instanceMethod ⟨"StretchedCarpetModel", "isSo", "(II)Z"⟩ ∈ TB := tb_of (i := 1055) (by decide +kernel) rfl
theorem tb_1056 : Cond.code ⟨"StretchedCarpetModel", "isSo", "(II)Z"⟩ prog_9_method_56_code 6 (Option.some .boolean) ∈ TB := tb_of (i := 1056) (by decide +kernel) rfl
theorem tb_1057 : Cond.methodLink "StretchedCarpetLaw" 99 ⟨"StretchedCarpetModel", "hall", "(II)I"⟩ ∈ TB := tb_of (i := 1057) (by decide +kernel) rfl
theorem tb_1058 : Cond.instanceMethod ⟨"StretchedCarpetModel", "hall", "(II)I"⟩ ∈ TB := tb_of (i := 1058) (by decide +kernel) rfl
theorem tb_1059 : Cond.selects "StretchedCarpetModel" ⟨"StretchedCarpetModel", "hall", "(II)I"⟩ ⟨"StretchedCarpetModel", "hall", "(II)I"⟩ ∈ TB := tb_of (i := 1059) (by decide +kernel) rfl
theorem tb_1060 : Cond.code ⟨"StretchedCarpetModel", "hall", "(II)I"⟩ prog_9_method_58_code 4 (Option.some .int) ∈ TB := tb_of (i := 1060) (by decide +kernel) rfl
theorem tb_1061 : Cond.methodLink "StretchedCarpetLaw" 103 ⟨"StretchedCarpetModel", "left", "(I)I"⟩ ∈ TB := tb_of (i := 1061) (by decide +kernel) rfl
theorem tb_1062 : Cond.instanceMethod ⟨"StretchedCarpetModel", "left", "(I)I"⟩ ∈ TB := tb_of (i := 1062) (by decide +kernel) rfl
theorem tb_1063 : Cond.selects "StretchedCarpetModel" ⟨"StretchedCarpetModel", "left", "(I)I"⟩ ⟨"StretchedCarpetModel", "left", "(I)I"⟩ ∈ TB := tb_of (i := 1063) (by decide +kernel) rfl
theorem tb_1064 : Cond.code ⟨"StretchedCarpetModel", "left", "(I)I"⟩ prog_9_method_59_code 4 (Option.some .int) ∈ TB := tb_of (i := 1064) (by decide +kernel) rfl
theorem tb_1065 : Cond.methodLink "StretchedCarpetLaw" 108 ⟨"StretchedCarpetModel", "likely", "(IIII)I"⟩ ∈ TB := tb_of (i := 1065) (by decide +kernel) rfl
theorem tb_1066 : Cond.instanceMethod ⟨"StretchedCarpetModel", "likely", "(IIII)I"⟩ ∈ TB := tb_of (i := 1066) (by decide +kernel) rfl
theorem tb_1067 : Cond.selects "StretchedCarpetModel" ⟨"StretchedCarpetModel", "likely", "(IIII)I"⟩ ⟨"StretchedCarpetModel", "likely", "(IIII)I"⟩ ∈ TB := tb_of (i := 1067) (by decide +kernel) rfl
theorem tb_1068 : Cond.code ⟨"StretchedCarpetModel", "likely", "(IIII)I"⟩ prog_9_method_60_code 11 (Option.some .int) ∈ TB := tb_of (i := 1068) (by decide +kernel) rfl
theorem tb_1069 : Cond.methodLink "StretchedCarpetLaw" 113 ⟨"StretchedCarpetModel", "year", "(III)I"⟩ ∈ TB := tb_of (i := 1069) (by decide +kernel) rfl
theorem tb_1070 : Cond.instanceMethod ⟨"StretchedCarpetModel", "year", "(III)I"⟩ ∈ TB := tb_of (i := 1070) (by decide +kernel) rfl
theorem tb_1071 : Cond.selects "StretchedCarpetModel" ⟨"StretchedCarpetModel", "year", "(III)I"⟩ ⟨"StretchedCarpetModel", "year", "(III)I"⟩ ∈ TB := tb_of (i := 1071) (by decide +kernel) rfl
theorem tb_1072 : Cond.code ⟨"StretchedCarpetModel", "year", "(III)I"⟩ prog_9_method_61_code 9 (Option.some .int) ∈ TB := tb_of (i := 1072) (by decide +kernel) rfl
theorem tb_1073 : Cond.constantLong "StretchedCarpetModel" 220 (lI (7919)) ∈ TB := tb_of (i := 1073) (by decide +kernel) rfl
theorem tb_1074 : Cond.constantLong "StretchedCarpetModel" 222 (lI (6151)) ∈ TB := tb_of (i := 1074) (by decide +kernel) rfl
theorem tb_1075 : Cond.constantLong "StretchedCarpetModel" 224 (lI (65521)) ∈ TB := tb_of (i := 1075) (by decide +kernel) rfl
theorem tb_1076 : Cond.constantLong "StretchedCarpetModel" 226 (lI (2)) ∈ TB := tb_of (i := 1076) (by decide +kernel) rfl
theorem tb_1077 : Cond.methodLink "StretchedCarpetLaw" 117 ⟨"StretchedCarpetModel", "keep", "()I"⟩ ∈ TB := tb_of (i := 1077) (by decide +kernel) rfl
theorem tb_1078 : Cond.instanceMethod ⟨"StretchedCarpetModel", "keep", "()I"⟩ ∈ TB := tb_of (i := 1078) (by decide +kernel) rfl
theorem tb_1079 : Cond.selects "StretchedCarpetModel" ⟨"StretchedCarpetModel", "keep", "()I"⟩ ⟨"StretchedCarpetModel", "keep", "()I"⟩ ∈ TB := tb_of (i := 1079) (by decide +kernel) rfl
theorem tb_1080 : Cond.code ⟨"StretchedCarpetModel", "keep", "()I"⟩ prog_9_method_62_code 1 (Option.some .int) ∈ TB := tb_of (i := 1080) (by decide +kernel) rfl
theorem tb_1081 : Cond.methodLink "StretchedCarpetLaw" 121 ⟨"StretchedCarpetModel", "back", "()I"⟩ ∈ TB := tb_of (i := 1081) (by decide +kernel) rfl
theorem tb_1082 : Cond.instanceMethod ⟨"StretchedCarpetModel", "back", "()I"⟩ ∈ TB := tb_of (i := 1082) (by decide +kernel) rfl
theorem tb_1083 : Cond.selects "StretchedCarpetModel" ⟨"StretchedCarpetModel", "back", "()I"⟩ ⟨"StretchedCarpetModel", "back", "()I"⟩ ∈ TB := tb_of (i := 1083) (by decide +kernel) rfl
theorem tb_1084 : Cond.code ⟨"StretchedCarpetModel", "back", "()I"⟩ prog_9_method_63_code 1 (Option.some .int) ∈ TB := tb_of (i := 1084) (by decide +kernel) rfl
theorem tb_1085 : Cond.methodLink "StretchedCarpetLaw" 125 ⟨"StretchedCarpetModel", "count", "(I)I"⟩ ∈ TB := tb_of (i := 1085) (by decide +kernel) rfl
theorem tb_1086 : Cond.instanceMethod ⟨"StretchedCarpetModel", "count", "(I)I"⟩ ∈ TB := tb_of (i := 1086) (by decide +kernel) rfl
theorem tb_1087 : Cond.selects "StretchedCarpetModel" ⟨"StretchedCarpetModel", "count", "(I)I"⟩ ⟨"StretchedCarpetModel", "count", "(I)I"⟩ ∈ TB := tb_of (i := 1087) (by decide +kernel) rfl
theorem tb_1088 : Cond.code ⟨"StretchedCarpetModel", "count", "(I)I"⟩ prog_9_method_64_code 2 (Option.some .int) ∈ TB := tb_of (i := 1088) (by decide +kernel) rfl
theorem tp_X1_choose : Cond.selects "StretchedCarpet$CutPlan" ⟨"StretchedCarpet$CutPlan", "choose", "(LStretchedCarpet$Room;I)V"⟩ ⟨"StretchedCarpet$CutPlan", "choose", "(LStretchedCarpet$Room;I)V"⟩ ∈ TB := tb_of (i := 6) (by decide +kernel) rfl
theorem tp_X1_isLess : Cond.selects "StretchedCarpet$CutPlan" ⟨"StretchedCarpet$CutPlan", "isLess", "(III)Z"⟩ ⟨"StretchedCarpet$CutPlan", "isLess", "(III)Z"⟩ ∈ TB := tb_of (i := 7) (by decide +kernel) rfl
theorem tp_X2_isOrder : Cond.selects "StretchedCarpet$HookOrder" ⟨"StretchedCarpet$HookOrder", "isOrder", "(LStretchedCarpet$Carpet;I)Z"⟩ ⟨"StretchedCarpet$HookOrder", "isOrder", "(LStretchedCarpet$Carpet;I)Z"⟩ ∈ TB := tb_of (i := 8) (by decide +kernel) rfl
theorem tp_X2_kicksOf : Cond.selects "StretchedCarpet$HookOrder" ⟨"StretchedCarpet$HookOrder", "kicksOf", "(LStretchedCarpet$Room;LStretchedCarpet$Carpet;LStretchedCarpet$Carpet;I)I"⟩ ⟨"StretchedCarpet$HookOrder", "kicksOf", "(LStretchedCarpet$Room;LStretchedCarpet$Carpet;LStretchedCarpet$Carpet;I)I"⟩ ∈ TB := tb_of (i := 10) (by decide +kernel) rfl
theorem tp_X2_wallIn : Cond.selects "StretchedCarpet$HookOrder" ⟨"StretchedCarpet$HookOrder", "wallIn", "(II)I"⟩ ⟨"StretchedCarpet$HookOrder", "wallIn", "(II)I"⟩ ∈ TB := tb_of (i := 9) (by decide +kernel) rfl
theorem tp_X3_clear : Cond.selects "StretchedCarpet$Room" ⟨"StretchedCarpet$Room", "clear", "()V"⟩ ⟨"StretchedCarpet$Room", "clear", "()V"⟩ ∈ TB := tb_of (i := 0) (by decide +kernel) rfl
theorem tp_X3_readNumbers : Cond.selects "StretchedCarpet$Room" ⟨"StretchedCarpet$Room", "readNumbers", "([CII)I"⟩ ⟨"StretchedCarpet$Room", "readNumbers", "([CII)I"⟩ ∈ TB := tb_of (i := 1) (by decide +kernel) rfl
theorem tp_X3_takeDamp : Cond.selects "StretchedCarpet$Room" ⟨"StretchedCarpet$Room", "takeDamp", "(I)Z"⟩ ⟨"StretchedCarpet$Room", "takeDamp", "(I)Z"⟩ ∈ TB := tb_of (i := 4) (by decide +kernel) rfl
theorem tp_X3_takeItem : Cond.selects "StretchedCarpet$Room" ⟨"StretchedCarpet$Room", "takeItem", "(I)Z"⟩ ⟨"StretchedCarpet$Room", "takeItem", "(I)Z"⟩ ∈ TB := tb_of (i := 2) (by decide +kernel) rfl
theorem tp_X3_takeStrip : Cond.selects "StretchedCarpet$Room" ⟨"StretchedCarpet$Room", "takeStrip", "(III)Z"⟩ ⟨"StretchedCarpet$Room", "takeStrip", "(III)Z"⟩ ∈ TB := tb_of (i := 3) (by decide +kernel) rfl
theorem tp_X4_rowAt : Cond.selects "StretchedCarpet$Shelf" ⟨"StretchedCarpet$Shelf", "rowAt", "(I)LStretchedCarpet$Carpet;"⟩ ⟨"StretchedCarpet$Shelf", "rowAt", "(I)LStretchedCarpet$Carpet;"⟩ ∈ TB := tb_of (i := 5) (by decide +kernel) rfl
theorem tp_X5_explainedBy : Cond.selects "StretchedCarpet$Sightings" ⟨"StretchedCarpet$Sightings", "explainedBy", "(II)Z"⟩ ⟨"StretchedCarpet$Sightings", "explainedBy", "(II)Z"⟩ ∈ TB := tb_of (i := 11) (by decide +kernel) rfl
theorem tp_X7_addStrip : Cond.selects "StretchedCarpetModel" ⟨"StretchedCarpetModel", "addStrip", "(IIII)V"⟩ ⟨"StretchedCarpetModel", "addStrip", "(IIII)V"⟩ ∈ TB := tb_of (i := 12) (by decide +kernel) rfl
theorem tp_X7_begin : Cond.selects "StretchedCarpetModel" ⟨"StretchedCarpetModel", "begin", "()V"⟩ ⟨"StretchedCarpetModel", "begin", "()V"⟩ ∈ TB := tb_of (i := 35) (by decide +kernel) rfl
theorem tp_X7_covers : Cond.selects "StretchedCarpetModel" ⟨"StretchedCarpetModel", "covers", "(II)Z"⟩ ⟨"StretchedCarpetModel", "covers", "(II)Z"⟩ ∈ TB := tb_of (i := 30) (by decide +kernel) rfl
theorem tp_X7_dampBy : Cond.selects "StretchedCarpetModel" ⟨"StretchedCarpetModel", "dampBy", "(I)I"⟩ ⟨"StretchedCarpetModel", "dampBy", "(I)I"⟩ ∈ TB := tb_of (i := 21) (by decide +kernel) rfl
theorem tp_X7_isBefore : Cond.selects "StretchedCarpetModel" ⟨"StretchedCarpetModel", "isBefore", "(I)Z"⟩ ⟨"StretchedCarpetModel", "isBefore", "(I)Z"⟩ ∈ TB := tb_of (i := 32) (by decide +kernel) rfl
theorem tp_X7_isCovered : Cond.selects "StretchedCarpetModel" ⟨"StretchedCarpetModel", "isCovered", "()Z"⟩ ⟨"StretchedCarpetModel", "isCovered", "()Z"⟩ ∈ TB := tb_of (i := 25) (by decide +kernel) rfl
theorem tp_X7_isDampItem : Cond.selects "StretchedCarpetModel" ⟨"StretchedCarpetModel", "isDampItem", "()Z"⟩ ⟨"StretchedCarpetModel", "isDampItem", "()Z"⟩ ∈ TB := tb_of (i := 19) (by decide +kernel) rfl
theorem tp_X7_isItem : Cond.selects "StretchedCarpetModel" ⟨"StretchedCarpetModel", "isItem", "()Z"⟩ ⟨"StretchedCarpetModel", "isItem", "()Z"⟩ ∈ TB := tb_of (i := 13) (by decide +kernel) rfl
theorem tp_X7_isNumber : Cond.selects "StretchedCarpetModel" ⟨"StretchedCarpetModel", "isNumber", "(III)Z"⟩ ⟨"StretchedCarpetModel", "isNumber", "(III)Z"⟩ ∈ TB := tb_of (i := 16) (by decide +kernel) rfl
theorem tp_X7_isOne : Cond.selects "StretchedCarpetModel" ⟨"StretchedCarpetModel", "isOne", "(III)Z"⟩ ⟨"StretchedCarpetModel", "isOne", "(III)Z"⟩ ∈ TB := tb_of (i := 18) (by decide +kernel) rfl
theorem tp_X7_isPair : Cond.selects "StretchedCarpetModel" ⟨"StretchedCarpetModel", "isPair", "(IIIII)Z"⟩ ⟨"StretchedCarpetModel", "isPair", "(IIIII)Z"⟩ ∈ TB := tb_of (i := 17) (by decide +kernel) rfl
theorem tp_X7_isSo : Cond.selects "StretchedCarpetModel" ⟨"StretchedCarpetModel", "isSo", "(II)Z"⟩ ⟨"StretchedCarpetModel", "isSo", "(II)Z"⟩ ∈ TB := tb_of (i := 38) (by decide +kernel) rfl
theorem tp_X7_isStripItem : Cond.selects "StretchedCarpetModel" ⟨"StretchedCarpetModel", "isStripItem", "()Z"⟩ ⟨"StretchedCarpetModel", "isStripItem", "()Z"⟩ ∈ TB := tb_of (i := 15) (by decide +kernel) rfl
theorem tp_X7_kick : Cond.selects "StretchedCarpetModel" ⟨"StretchedCarpetModel", "kick", "([III)V"⟩ ⟨"StretchedCarpetModel", "kick", "([III)V"⟩ ∈ TB := tb_of (i := 26) (by decide +kernel) rfl
theorem tp_X7_kicks : Cond.selects "StretchedCarpetModel" ⟨"StretchedCarpetModel", "kicks", "(I)I"⟩ ⟨"StretchedCarpetModel", "kicks", "(I)I"⟩ ∈ TB := tb_of (i := 34) (by decide +kernel) rfl
theorem tp_X7_layOrder : Cond.selects "StretchedCarpetModel" ⟨"StretchedCarpetModel", "layOrder", "()V"⟩ ⟨"StretchedCarpetModel", "layOrder", "()V"⟩ ∈ TB := tb_of (i := 33) (by decide +kernel) rfl
theorem tp_X7_layPlan : Cond.selects "StretchedCarpetModel" ⟨"StretchedCarpetModel", "layPlan", "()V"⟩ ⟨"StretchedCarpetModel", "layPlan", "()V"⟩ ∈ TB := tb_of (i := 29) (by decide +kernel) rfl
theorem tp_X7_leastKick : Cond.selects "StretchedCarpetModel" ⟨"StretchedCarpetModel", "leastKick", "([III)I"⟩ ⟨"StretchedCarpetModel", "leastKick", "([III)I"⟩ ∈ TB := tb_of (i := 36) (by decide +kernel) rfl
theorem tp_X7_lengthOf : Cond.selects "StretchedCarpetModel" ⟨"StretchedCarpetModel", "lengthOf", "(I)I"⟩ ⟨"StretchedCarpetModel", "lengthOf", "(I)I"⟩ ∈ TB := tb_of (i := 20) (by decide +kernel) rfl
theorem tp_X7_letterAt : Cond.selects "StretchedCarpetModel" ⟨"StretchedCarpetModel", "letterAt", "(I)I"⟩ ⟨"StretchedCarpetModel", "letterAt", "(I)I"⟩ ∈ TB := tb_of (i := 14) (by decide +kernel) rfl
theorem tp_X7_longFor : Cond.selects "StretchedCarpetModel" ⟨"StretchedCarpetModel", "longFor", "(II)I"⟩ ⟨"StretchedCarpetModel", "longFor", "(II)I"⟩ ∈ TB := tb_of (i := 22) (by decide +kernel) rfl
theorem tp_X7_note : Cond.selects "StretchedCarpetModel" ⟨"StretchedCarpetModel", "note", "()V"⟩ ⟨"StretchedCarpetModel", "note", "()V"⟩ ∈ TB := tb_of (i := 24) (by decide +kernel) rfl
theorem tp_X7_passMonth : Cond.selects "StretchedCarpetModel" ⟨"StretchedCarpetModel", "passMonth", "([I)V"⟩ ⟨"StretchedCarpetModel", "passMonth", "([I)V"⟩ ∈ TB := tb_of (i := 28) (by decide +kernel) rfl
theorem tp_X7_rollIn : Cond.selects "StretchedCarpetModel" ⟨"StretchedCarpetModel", "rollIn", "([I)I"⟩ ⟨"StretchedCarpetModel", "rollIn", "([I)I"⟩ ∈ TB := tb_of (i := 23) (by decide +kernel) rfl
theorem tp_X7_seamAt : Cond.selects "StretchedCarpetModel" ⟨"StretchedCarpetModel", "seamAt", "(I)I"⟩ ⟨"StretchedCarpetModel", "seamAt", "(I)I"⟩ ∈ TB := tb_of (i := 31) (by decide +kernel) rfl
theorem tp_X7_tightBy : Cond.selects "StretchedCarpetModel" ⟨"StretchedCarpetModel", "tightBy", "([III)I"⟩ ⟨"StretchedCarpetModel", "tightBy", "([III)I"⟩ ∈ TB := tb_of (i := 27) (by decide +kernel) rfl
theorem tp_X7_wavesAt : Cond.selects "StretchedCarpetModel" ⟨"StretchedCarpetModel", "wavesAt", "(I)I"⟩ ⟨"StretchedCarpetModel", "wavesAt", "(I)I"⟩ ∈ TB := tb_of (i := 37) (by decide +kernel) rfl
end
section
theorem dX0_init_0 : decode cX0_init 0 = .ok (.aload_n 0, 1) := by decide +kernel
theorem dX0_init_1 : decode cX0_init 1 = .ok (.invokespecial 3, 3) := by decide +kernel
theorem dX0_init_4 : decode cX0_init 4 = .ok (.aload_n 0, 1) := by decide +kernel
theorem dX0_init_5 : decode cX0_init 5 = .ok (.bipush 12, 2) := by decide +kernel
theorem dX0_init_7 : decode cX0_init 7 = .ok (.newarray .int, 2) := by decide +kernel
theorem dX0_init_9 : decode cX0_init 9 = .ok (.putfield 9, 3) := by decide +kernel
theorem dX0_init_12 : decode cX0_init 12 = .ok (.aload_n 0, 1) := by decide +kernel
theorem dX0_init_13 : decode cX0_init 13 = .ok (.iconst 4, 1) := by decide +kernel
theorem dX0_init_14 : decode cX0_init 14 = .ok (.newarray .int, 2) := by decide +kernel
theorem dX0_init_16 : decode cX0_init 16 = .ok (.putfield 15, 3) := by decide +kernel
theorem dX0_init_19 : decode cX0_init 19 = .ok (.aload_n 0, 1) := by decide +kernel
theorem dX0_init_20 : decode cX0_init 20 = .ok (.iconst 0, 1) := by decide +kernel
theorem dX0_init_21 : decode cX0_init 21 = .ok (.invokevirtual 18, 3) := by decide +kernel
theorem dX0_init_24 : decode cX0_init 24 = .ok (.return_, 1) := by decide +kernel
theorem dX0_clear_0 : decode cX0_clear 0 = .ok (.iconst 0, 1) := by decide +kernel
theorem dX0_clear_1 : decode cX0_clear 1 = .ok (.istore_n 2, 1) := by decide +kernel
theorem dX0_clear_2 : decode cX0_clear 2 = .ok (.iload_n 2, 1) := by decide +kernel
theorem dX0_clear_3 : decode cX0_clear 3 = .ok (.iconst 4, 1) := by decide +kernel
theorem dX0_clear_4 : decode cX0_clear 4 = .ok (.if_icmp .ge 18, 3) := by decide +kernel
theorem dX0_clear_7 : decode cX0_clear 7 = .ok (.aload_n 0, 1) := by decide +kernel
theorem dX0_clear_8 : decode cX0_clear 8 = .ok (.getfield 15, 3) := by decide +kernel
theorem dX0_clear_11 : decode cX0_clear 11 = .ok (.iload_n 2, 1) := by decide +kernel
theorem dX0_clear_12 : decode cX0_clear 12 = .ok (.iconst 0, 1) := by decide +kernel
theorem dX0_clear_13 : decode cX0_clear 13 = .ok (.invokestatic 22, 3) := by decide +kernel
theorem dX0_clear_16 : decode cX0_clear 16 = .ok (.iinc 2 1, 3) := by decide +kernel
theorem dX0_clear_19 : decode cX0_clear 19 = .ok (.goto (-17), 3) := by decide +kernel
theorem dX0_clear_22 : decode cX0_clear 22 = .ok (.aload_n 0, 1) := by decide +kernel
theorem dX0_clear_23 : decode cX0_clear 23 = .ok (.iconst 0, 1) := by decide +kernel
theorem dX0_clear_24 : decode cX0_clear 24 = .ok (.putfield 26, 3) := by decide +kernel
theorem dX0_clear_27 : decode cX0_clear 27 = .ok (.aload_n 0, 1) := by decide +kernel
theorem dX0_clear_28 : decode cX0_clear 28 = .ok (.iconst 0, 1) := by decide +kernel
theorem dX0_clear_29 : decode cX0_clear 29 = .ok (.putfield 30, 3) := by decide +kernel
theorem dX0_clear_32 : decode cX0_clear 32 = .ok (.aload_n 0, 1) := by decide +kernel
theorem dX0_clear_33 : decode cX0_clear 33 = .ok (.iload_n 1, 1) := by decide +kernel
theorem dX0_clear_34 : decode cX0_clear 34 = .ok (.putfield 33, 3) := by decide +kernel
theorem dX0_clear_37 : decode cX0_clear 37 = .ok (.aload_n 0, 1) := by decide +kernel
theorem dX0_clear_38 : decode cX0_clear 38 = .ok (.iconst 0, 1) := by decide +kernel
theorem dX0_clear_39 : decode cX0_clear 39 = .ok (.putfield 36, 3) := by decide +kernel
theorem dX0_clear_42 : decode cX0_clear 42 = .ok (.aload_n 0, 1) := by decide +kernel
theorem dX0_clear_43 : decode cX0_clear 43 = .ok (.iconst 0, 1) := by decide +kernel
theorem dX0_clear_44 : decode cX0_clear 44 = .ok (.putfield 39, 3) := by decide +kernel
theorem dX0_clear_47 : decode cX0_clear 47 = .ok (.aload_n 0, 1) := by decide +kernel
theorem dX0_clear_48 : decode cX0_clear 48 = .ok (.iconst 0, 1) := by decide +kernel
theorem dX0_clear_49 : decode cX0_clear 49 = .ok (.putfield 42, 3) := by decide +kernel
theorem dX0_clear_52 : decode cX0_clear 52 = .ok (.return_, 1) := by decide +kernel
theorem dX0_copyFrom_0 : decode cX0_copyFrom 0 = .ok (.aload_n 1, 1) := by decide +kernel
theorem dX0_copyFrom_1 : decode cX0_copyFrom 1 = .ok (.getfield 9, 3) := by decide +kernel
theorem dX0_copyFrom_4 : decode cX0_copyFrom 4 = .ok (.aload_n 0, 1) := by decide +kernel
theorem dX0_copyFrom_5 : decode cX0_copyFrom 5 = .ok (.getfield 9, 3) := by decide +kernel
theorem dX0_copyFrom_8 : decode cX0_copyFrom 8 = .ok (.invokestatic 45, 3) := by decide +kernel
theorem dX0_copyFrom_11 : decode cX0_copyFrom 11 = .ok (.aload_n 1, 1) := by decide +kernel
theorem dX0_copyFrom_12 : decode cX0_copyFrom 12 = .ok (.getfield 15, 3) := by decide +kernel
theorem dX0_copyFrom_15 : decode cX0_copyFrom 15 = .ok (.aload_n 0, 1) := by decide +kernel
theorem dX0_copyFrom_16 : decode cX0_copyFrom 16 = .ok (.getfield 15, 3) := by decide +kernel
theorem dX0_copyFrom_19 : decode cX0_copyFrom 19 = .ok (.invokestatic 45, 3) := by decide +kernel
theorem dX0_copyFrom_22 : decode cX0_copyFrom 22 = .ok (.aload_n 0, 1) := by decide +kernel
theorem dX0_copyFrom_23 : decode cX0_copyFrom 23 = .ok (.aload_n 1, 1) := by decide +kernel
theorem dX0_copyFrom_24 : decode cX0_copyFrom 24 = .ok (.getfield 26, 3) := by decide +kernel
theorem dX0_copyFrom_27 : decode cX0_copyFrom 27 = .ok (.putfield 26, 3) := by decide +kernel
theorem dX0_copyFrom_30 : decode cX0_copyFrom 30 = .ok (.aload_n 0, 1) := by decide +kernel
theorem dX0_copyFrom_31 : decode cX0_copyFrom 31 = .ok (.aload_n 1, 1) := by decide +kernel
theorem dX0_copyFrom_32 : decode cX0_copyFrom 32 = .ok (.getfield 30, 3) := by decide +kernel
theorem dX0_copyFrom_35 : decode cX0_copyFrom 35 = .ok (.putfield 30, 3) := by decide +kernel
theorem dX0_copyFrom_38 : decode cX0_copyFrom 38 = .ok (.aload_n 0, 1) := by decide +kernel
theorem dX0_copyFrom_39 : decode cX0_copyFrom 39 = .ok (.aload_n 1, 1) := by decide +kernel
theorem dX0_copyFrom_40 : decode cX0_copyFrom 40 = .ok (.getfield 33, 3) := by decide +kernel
theorem dX0_copyFrom_43 : decode cX0_copyFrom 43 = .ok (.putfield 33, 3) := by decide +kernel
theorem dX0_copyFrom_46 : decode cX0_copyFrom 46 = .ok (.aload_n 0, 1) := by decide +kernel
theorem dX0_copyFrom_47 : decode cX0_copyFrom 47 = .ok (.aload_n 1, 1) := by decide +kernel
theorem dX0_copyFrom_48 : decode cX0_copyFrom 48 = .ok (.getfield 36, 3) := by decide +kernel
theorem dX0_copyFrom_51 : decode cX0_copyFrom 51 = .ok (.putfield 36, 3) := by decide +kernel
theorem dX0_copyFrom_54 : decode cX0_copyFrom 54 = .ok (.aload_n 0, 1) := by decide +kernel
theorem dX0_copyFrom_55 : decode cX0_copyFrom 55 = .ok (.aload_n 1, 1) := by decide +kernel
theorem dX0_copyFrom_56 : decode cX0_copyFrom 56 = .ok (.getfield 39, 3) := by decide +kernel
theorem dX0_copyFrom_59 : decode cX0_copyFrom 59 = .ok (.putfield 39, 3) := by decide +kernel
theorem dX0_copyFrom_62 : decode cX0_copyFrom 62 = .ok (.aload_n 0, 1) := by decide +kernel
theorem dX0_copyFrom_63 : decode cX0_copyFrom 63 = .ok (.aload_n 1, 1) := by decide +kernel
theorem dX0_copyFrom_64 : decode cX0_copyFrom 64 = .ok (.getfield 42, 3) := by decide +kernel
theorem dX0_copyFrom_67 : decode cX0_copyFrom 67 = .ok (.putfield 42, 3) := by decide +kernel
theorem dX0_copyFrom_70 : decode cX0_copyFrom 70 = .ok (.return_, 1) := by decide +kernel
theorem dX0_isCovered_0 : decode cX0_isCovered 0 = .ok (.aload_n 0, 1) := by decide +kernel
theorem dX0_isCovered_1 : decode cX0_isCovered 1 = .ok (.getfield 30, 3) := by decide +kernel
theorem dX0_isCovered_4 : decode cX0_isCovered 4 = .ok (.aload_n 1, 1) := by decide +kernel
theorem dX0_isCovered_5 : decode cX0_isCovered 5 = .ok (.getfield 49, 3) := by decide +kernel
theorem dX0_isCovered_8 : decode cX0_isCovered 8 = .ok (.if_icmp .lt 7, 3) := by decide +kernel
theorem dX0_isCovered_11 : decode cX0_isCovered 11 = .ok (.iconst 1, 1) := by decide +kernel
theorem dX0_isCovered_12 : decode cX0_isCovered 12 = .ok (.goto 4, 3) := by decide +kernel
theorem dX0_isCovered_15 : decode cX0_isCovered 15 = .ok (.iconst 0, 1) := by decide +kernel
theorem dX0_isCovered_16 : decode cX0_isCovered 16 = .ok (.ireturn, 1) := by decide +kernel
theorem dX0_canCut_0 : decode cX0_canCut 0 = .ok (.iload_n 2, 1) := by decide +kernel
theorem dX0_canCut_1 : decode cX0_canCut 1 = .ok (.aload_n 1, 1) := by decide +kernel
theorem dX0_canCut_2 : decode cX0_canCut 2 = .ok (.getfield 54, 3) := by decide +kernel
theorem dX0_canCut_5 : decode cX0_canCut 5 = .ok (.if_icmp .gt 36, 3) := by decide +kernel
theorem dX0_canCut_8 : decode cX0_canCut 8 = .ok (.iload_n 2, 1) := by decide +kernel
theorem dX0_canCut_9 : decode cX0_canCut 9 = .ok (.aload_n 1, 1) := by decide +kernel
theorem dX0_canCut_10 : decode cX0_canCut 10 = .ok (.getfield 49, 3) := by decide +kernel
theorem dX0_canCut_13 : decode cX0_canCut 13 = .ok (.aload_n 0, 1) := by decide +kernel
theorem dX0_canCut_14 : decode cX0_canCut 14 = .ok (.getfield 30, 3) := by decide +kernel
theorem dX0_canCut_17 : decode cX0_canCut 17 = .ok (.isub, 1) := by decide +kernel
theorem dX0_canCut_18 : decode cX0_canCut 18 = .ok (.if_icmp .gt 23, 3) := by decide +kernel
theorem dX0_canCut_21 : decode cX0_canCut 21 = .ok (.aload_n 1, 1) := by decide +kernel
theorem dX0_canCut_22 : decode cX0_canCut 22 = .ok (.aload_n 0, 1) := by decide +kernel
theorem dX0_canCut_23 : decode cX0_canCut 23 = .ok (.getfield 30, 3) := by decide +kernel
theorem dX0_canCut_26 : decode cX0_canCut 26 = .ok (.iload_n 2, 1) := by decide +kernel
theorem dX0_canCut_27 : decode cX0_canCut 27 = .ok (.invokevirtual 57, 3) := by decide +kernel
theorem dX0_canCut_30 : decode cX0_canCut 30 = .ok (.aload_n 0, 1) := by decide +kernel
theorem dX0_canCut_31 : decode cX0_canCut 31 = .ok (.getfield 33, 3) := by decide +kernel
theorem dX0_canCut_34 : decode cX0_canCut 34 = .ok (.if_icmp .gt 7, 3) := by decide +kernel
theorem dX0_canCut_37 : decode cX0_canCut 37 = .ok (.iconst 1, 1) := by decide +kernel
theorem dX0_canCut_38 : decode cX0_canCut 38 = .ok (.goto 4, 3) := by decide +kernel
theorem dX0_canCut_41 : decode cX0_canCut 41 = .ok (.iconst 0, 1) := by decide +kernel
theorem dX0_canCut_42 : decode cX0_canCut 42 = .ok (.ireturn, 1) := by decide +kernel
theorem dX0_cutFor_0 : decode cX0_cutFor 0 = .ok (.aload_n 1, 1) := by decide +kernel
theorem dX0_cutFor_1 : decode cX0_cutFor 1 = .ok (.aload_n 0, 1) := by decide +kernel
theorem dX0_cutFor_2 : decode cX0_cutFor 2 = .ok (.getfield 30, 3) := by decide +kernel
theorem dX0_cutFor_5 : decode cX0_cutFor 5 = .ok (.iload_n 2, 1) := by decide +kernel
theorem dX0_cutFor_6 : decode cX0_cutFor 6 = .ok (.invokevirtual 57, 3) := by decide +kernel
theorem dX0_cutFor_9 : decode cX0_cutFor 9 = .ok (.istore_n 3, 1) := by decide +kernel
theorem dX0_cutFor_10 : decode cX0_cutFor 10 = .ok (.aload_n 0, 1) := by decide +kernel
theorem dX0_cutFor_11 : decode cX0_cutFor 11 = .ok (.getfield 9, 3) := by decide +kernel
theorem dX0_cutFor_14 : decode cX0_cutFor 14 = .ok (.aload_n 0, 1) := by decide +kernel
theorem dX0_cutFor_15 : decode cX0_cutFor 15 = .ok (.getfield 26, 3) := by decide +kernel
theorem dX0_cutFor_18 : decode cX0_cutFor 18 = .ok (.iload_n 2, 1) := by decide +kernel
theorem dX0_cutFor_19 : decode cX0_cutFor 19 = .ok (.invokestatic 22, 3) := by decide +kernel
theorem dX0_cutFor_22 : decode cX0_cutFor 22 = .ok (.aload_n 0, 1) := by decide +kernel
theorem dX0_cutFor_23 : decode cX0_cutFor 23 = .ok (.dup, 1) := by decide +kernel
theorem dX0_cutFor_24 : decode cX0_cutFor 24 = .ok (.getfield 26, 3) := by decide +kernel
theorem dX0_cutFor_27 : decode cX0_cutFor 27 = .ok (.iconst 1, 1) := by decide +kernel
theorem dX0_cutFor_28 : decode cX0_cutFor 28 = .ok (.iadd, 1) := by decide +kernel
theorem dX0_cutFor_29 : decode cX0_cutFor 29 = .ok (.putfield 26, 3) := by decide +kernel
theorem dX0_cutFor_32 : decode cX0_cutFor 32 = .ok (.aload_n 0, 1) := by decide +kernel
theorem dX0_cutFor_33 : decode cX0_cutFor 33 = .ok (.dup, 1) := by decide +kernel
theorem dX0_cutFor_34 : decode cX0_cutFor 34 = .ok (.getfield 30, 3) := by decide +kernel
theorem dX0_cutFor_37 : decode cX0_cutFor 37 = .ok (.iload_n 2, 1) := by decide +kernel
theorem dX0_cutFor_38 : decode cX0_cutFor 38 = .ok (.iadd, 1) := by decide +kernel
theorem dX0_cutFor_39 : decode cX0_cutFor 39 = .ok (.putfield 30, 3) := by decide +kernel
theorem dX0_cutFor_42 : decode cX0_cutFor 42 = .ok (.aload_n 0, 1) := by decide +kernel
theorem dX0_cutFor_43 : decode cX0_cutFor 43 = .ok (.dup, 1) := by decide +kernel
theorem dX0_cutFor_44 : decode cX0_cutFor 44 = .ok (.getfield 33, 3) := by decide +kernel
theorem dX0_cutFor_47 : decode cX0_cutFor 47 = .ok (.iload_n 3, 1) := by decide +kernel
theorem dX0_cutFor_48 : decode cX0_cutFor 48 = .ok (.isub, 1) := by decide +kernel
theorem dX0_cutFor_49 : decode cX0_cutFor 49 = .ok (.putfield 33, 3) := by decide +kernel
theorem dX0_cutFor_52 : decode cX0_cutFor 52 = .ok (.iload_n 3, 1) := by decide +kernel
theorem dX0_cutFor_53 : decode cX0_cutFor 53 = .ok (.ireturn, 1) := by decide +kernel
theorem dX0_lengthOver_0 : decode cX0_lengthOver 0 = .ok (.iconst 0, 1) := by decide +kernel
theorem dX0_lengthOver_1 : decode cX0_lengthOver 1 = .ok (.istore_n 2, 1) := by decide +kernel
theorem dX0_lengthOver_2 : decode cX0_lengthOver 2 = .ok (.iconst 0, 1) := by decide +kernel
theorem dX0_lengthOver_3 : decode cX0_lengthOver 3 = .ok (.istore_n 3, 1) := by decide +kernel
theorem dX0_lengthOver_4 : decode cX0_lengthOver 4 = .ok (.iload_n 3, 1) := by decide +kernel
theorem dX0_lengthOver_5 : decode cX0_lengthOver 5 = .ok (.aload_n 0, 1) := by decide +kernel
theorem dX0_lengthOver_6 : decode cX0_lengthOver 6 = .ok (.getfield 26, 3) := by decide +kernel
theorem dX0_lengthOver_9 : decode cX0_lengthOver 9 = .ok (.if_icmp .ge 27, 3) := by decide +kernel
theorem dX0_lengthOver_12 : decode cX0_lengthOver 12 = .ok (.iload_n 2, 1) := by decide +kernel
theorem dX0_lengthOver_13 : decode cX0_lengthOver 13 = .ok (.aload_n 0, 1) := by decide +kernel
theorem dX0_lengthOver_14 : decode cX0_lengthOver 14 = .ok (.getfield 9, 3) := by decide +kernel
theorem dX0_lengthOver_17 : decode cX0_lengthOver 17 = .ok (.iload_n 3, 1) := by decide +kernel
theorem dX0_lengthOver_18 : decode cX0_lengthOver 18 = .ok (.invokestatic 61, 3) := by decide +kernel
theorem dX0_lengthOver_21 : decode cX0_lengthOver 21 = .ok (.iadd, 1) := by decide +kernel
theorem dX0_lengthOver_22 : decode cX0_lengthOver 22 = .ok (.istore_n 2, 1) := by decide +kernel
theorem dX0_lengthOver_23 : decode cX0_lengthOver 23 = .ok (.iload_n 1, 1) := by decide +kernel
theorem dX0_lengthOver_24 : decode cX0_lengthOver 24 = .ok (.iload_n 2, 1) := by decide +kernel
theorem dX0_lengthOver_25 : decode cX0_lengthOver 25 = .ok (.if_icmp .ge 5, 3) := by decide +kernel
theorem dX0_lengthOver_28 : decode cX0_lengthOver 28 = .ok (.iload_n 3, 1) := by decide +kernel
theorem dX0_lengthOver_29 : decode cX0_lengthOver 29 = .ok (.ireturn, 1) := by decide +kernel
theorem dX0_lengthOver_30 : decode cX0_lengthOver 30 = .ok (.iinc 3 1, 3) := by decide +kernel
theorem dX0_lengthOver_33 : decode cX0_lengthOver 33 = .ok (.goto (-29), 3) := by decide +kernel
theorem dX0_lengthOver_36 : decode cX0_lengthOver 36 = .ok (.bipush (-4), 2) := by decide +kernel
theorem dX0_lengthOver_38 : decode cX0_lengthOver 38 = .ok (.ireturn, 1) := by decide +kernel
theorem dX0_isSeamAt_0 : decode cX0_isSeamAt 0 = .ok (.aload_n 0, 1) := by decide +kernel
theorem dX0_isSeamAt_1 : decode cX0_isSeamAt 1 = .ok (.iload_n 1, 1) := by decide +kernel
theorem dX0_isSeamAt_2 : decode cX0_isSeamAt 2 = .ok (.invokevirtual 65, 3) := by decide +kernel
theorem dX0_isSeamAt_5 : decode cX0_isSeamAt 5 = .ok (.istore_n 2, 1) := by decide +kernel
theorem dX0_isSeamAt_6 : decode cX0_isSeamAt 6 = .ok (.aload_n 0, 1) := by decide +kernel
theorem dX0_isSeamAt_7 : decode cX0_isSeamAt 7 = .ok (.iload_n 1, 1) := by decide +kernel
theorem dX0_isSeamAt_8 : decode cX0_isSeamAt 8 = .ok (.iconst 1, 1) := by decide +kernel
theorem dX0_isSeamAt_9 : decode cX0_isSeamAt 9 = .ok (.iadd, 1) := by decide +kernel
theorem dX0_isSeamAt_10 : decode cX0_isSeamAt 10 = .ok (.invokevirtual 65, 3) := by decide +kernel
theorem dX0_isSeamAt_13 : decode cX0_isSeamAt 13 = .ok (.istore_n 3, 1) := by decide +kernel
theorem dX0_isSeamAt_14 : decode cX0_isSeamAt 14 = .ok (.iload_n 2, 1) := by decide +kernel
theorem dX0_isSeamAt_15 : decode cX0_isSeamAt 15 = .ok (.bipush (-4), 2) := by decide +kernel
theorem dX0_isSeamAt_17 : decode cX0_isSeamAt 17 = .ok (.if_icmp .eq 18, 3) := by decide +kernel
theorem dX0_isSeamAt_20 : decode cX0_isSeamAt 20 = .ok (.iload_n 3, 1) := by decide +kernel
theorem dX0_isSeamAt_21 : decode cX0_isSeamAt 21 = .ok (.bipush (-4), 2) := by decide +kernel
theorem dX0_isSeamAt_23 : decode cX0_isSeamAt 23 = .ok (.if_icmp .eq 12, 3) := by decide +kernel
theorem dX0_isSeamAt_26 : decode cX0_isSeamAt 26 = .ok (.iload_n 2, 1) := by decide +kernel
theorem dX0_isSeamAt_27 : decode cX0_isSeamAt 27 = .ok (.iload_n 3, 1) := by decide +kernel
theorem dX0_isSeamAt_28 : decode cX0_isSeamAt 28 = .ok (.if_icmp .eq 7, 3) := by decide +kernel
theorem dX0_isSeamAt_31 : decode cX0_isSeamAt 31 = .ok (.iconst 1, 1) := by decide +kernel
theorem dX0_isSeamAt_32 : decode cX0_isSeamAt 32 = .ok (.goto 4, 3) := by decide +kernel
theorem dX0_isSeamAt_35 : decode cX0_isSeamAt 35 = .ok (.iconst 0, 1) := by decide +kernel
theorem dX0_isSeamAt_36 : decode cX0_isSeamAt 36 = .ok (.ireturn, 1) := by decide +kernel
theorem dX0_hasRestFor_0 : decode cX0_hasRestFor 0 = .ok (.iconst 0, 1) := by decide +kernel
theorem dX0_hasRestFor_1 : decode cX0_hasRestFor 1 = .ok (.istore 4, 2) := by decide +kernel
theorem dX0_hasRestFor_3 : decode cX0_hasRestFor 3 = .ok (.iconst 0, 1) := by decide +kernel
theorem dX0_hasRestFor_4 : decode cX0_hasRestFor 4 = .ok (.istore 5, 2) := by decide +kernel
theorem dX0_hasRestFor_6 : decode cX0_hasRestFor 6 = .ok (.iload 5, 2) := by decide +kernel
theorem dX0_hasRestFor_8 : decode cX0_hasRestFor 8 = .ok (.aload_n 0, 1) := by decide +kernel
theorem dX0_hasRestFor_9 : decode cX0_hasRestFor 9 = .ok (.getfield 26, 3) := by decide +kernel
theorem dX0_hasRestFor_12 : decode cX0_hasRestFor 12 = .ok (.if_icmp .ge 52, 3) := by decide +kernel
theorem dX0_hasRestFor_15 : decode cX0_hasRestFor 15 = .ok (.aload_n 0, 1) := by decide +kernel
theorem dX0_hasRestFor_16 : decode cX0_hasRestFor 16 = .ok (.getfield 9, 3) := by decide +kernel
theorem dX0_hasRestFor_19 : decode cX0_hasRestFor 19 = .ok (.iload 5, 2) := by decide +kernel
theorem dX0_hasRestFor_21 : decode cX0_hasRestFor 21 = .ok (.invokestatic 61, 3) := by decide +kernel
theorem dX0_hasRestFor_24 : decode cX0_hasRestFor 24 = .ok (.istore 6, 2) := by decide +kernel
theorem dX0_hasRestFor_26 : decode cX0_hasRestFor 26 = .ok (.aload_n 1, 1) := by decide +kernel
theorem dX0_hasRestFor_27 : decode cX0_hasRestFor 27 = .ok (.getfield 54, 3) := by decide +kernel
theorem dX0_hasRestFor_30 : decode cX0_hasRestFor 30 = .ok (.iload 6, 2) := by decide +kernel
theorem dX0_hasRestFor_32 : decode cX0_hasRestFor 32 = .ok (.isub, 1) := by decide +kernel
theorem dX0_hasRestFor_33 : decode cX0_hasRestFor 33 = .ok (.iload_n 2, 1) := by decide +kernel
theorem dX0_hasRestFor_34 : decode cX0_hasRestFor 34 = .ok (.if_icmp .lt 17, 3) := by decide +kernel
theorem dX0_hasRestFor_37 : decode cX0_hasRestFor 37 = .ok (.aload_n 1, 1) := by decide +kernel
theorem dX0_hasRestFor_38 : decode cX0_hasRestFor 38 = .ok (.iload 4, 2) := by decide +kernel
theorem dX0_hasRestFor_40 : decode cX0_hasRestFor 40 = .ok (.iload 6, 2) := by decide +kernel
theorem dX0_hasRestFor_42 : decode cX0_hasRestFor 42 = .ok (.invokevirtual 57, 3) := by decide +kernel
theorem dX0_hasRestFor_45 : decode cX0_hasRestFor 45 = .ok (.iload_n 3, 1) := by decide +kernel
theorem dX0_hasRestFor_46 : decode cX0_hasRestFor 46 = .ok (.if_icmp .lt 5, 3) := by decide +kernel
theorem dX0_hasRestFor_49 : decode cX0_hasRestFor 49 = .ok (.iconst 1, 1) := by decide +kernel
theorem dX0_hasRestFor_50 : decode cX0_hasRestFor 50 = .ok (.ireturn, 1) := by decide +kernel
theorem dX0_hasRestFor_51 : decode cX0_hasRestFor 51 = .ok (.iload 4, 2) := by decide +kernel
theorem dX0_hasRestFor_53 : decode cX0_hasRestFor 53 = .ok (.iload 6, 2) := by decide +kernel
theorem dX0_hasRestFor_55 : decode cX0_hasRestFor 55 = .ok (.iadd, 1) := by decide +kernel
theorem dX0_hasRestFor_56 : decode cX0_hasRestFor 56 = .ok (.istore 4, 2) := by decide +kernel
theorem dX0_hasRestFor_58 : decode cX0_hasRestFor 58 = .ok (.iinc 5 1, 3) := by decide +kernel
theorem dX0_hasRestFor_61 : decode cX0_hasRestFor 61 = .ok (.goto (-55), 3) := by decide +kernel
theorem dX0_hasRestFor_64 : decode cX0_hasRestFor 64 = .ok (.iconst 0, 1) := by decide +kernel
theorem dX0_hasRestFor_65 : decode cX0_hasRestFor 65 = .ok (.ireturn, 1) := by decide +kernel
theorem dX0_areaOfRests_0 : decode cX0_areaOfRests 0 = .ok (.iconst 0, 1) := by decide +kernel
theorem dX0_areaOfRests_1 : decode cX0_areaOfRests 1 = .ok (.istore_n 2, 1) := by decide +kernel
theorem dX0_areaOfRests_2 : decode cX0_areaOfRests 2 = .ok (.iconst 0, 1) := by decide +kernel
theorem dX0_areaOfRests_3 : decode cX0_areaOfRests 3 = .ok (.istore_n 3, 1) := by decide +kernel
theorem dX0_areaOfRests_4 : decode cX0_areaOfRests 4 = .ok (.iconst 0, 1) := by decide +kernel
theorem dX0_areaOfRests_5 : decode cX0_areaOfRests 5 = .ok (.istore 4, 2) := by decide +kernel
theorem dX0_areaOfRests_7 : decode cX0_areaOfRests 7 = .ok (.iload 4, 2) := by decide +kernel
theorem dX0_areaOfRests_9 : decode cX0_areaOfRests 9 = .ok (.aload_n 0, 1) := by decide +kernel
theorem dX0_areaOfRests_10 : decode cX0_areaOfRests 10 = .ok (.getfield 26, 3) := by decide +kernel
theorem dX0_areaOfRests_13 : decode cX0_areaOfRests 13 = .ok (.if_icmp .ge 43, 3) := by decide +kernel
theorem dX0_areaOfRests_16 : decode cX0_areaOfRests 16 = .ok (.aload_n 0, 1) := by decide +kernel
theorem dX0_areaOfRests_17 : decode cX0_areaOfRests 17 = .ok (.getfield 9, 3) := by decide +kernel
theorem dX0_areaOfRests_20 : decode cX0_areaOfRests 20 = .ok (.iload 4, 2) := by decide +kernel
theorem dX0_areaOfRests_22 : decode cX0_areaOfRests 22 = .ok (.invokestatic 61, 3) := by decide +kernel
theorem dX0_areaOfRests_25 : decode cX0_areaOfRests 25 = .ok (.istore 5, 2) := by decide +kernel
theorem dX0_areaOfRests_27 : decode cX0_areaOfRests 27 = .ok (.iload_n 3, 1) := by decide +kernel
theorem dX0_areaOfRests_28 : decode cX0_areaOfRests 28 = .ok (.aload_n 1, 1) := by decide +kernel
theorem dX0_areaOfRests_29 : decode cX0_areaOfRests 29 = .ok (.getfield 54, 3) := by decide +kernel
theorem dX0_areaOfRests_32 : decode cX0_areaOfRests 32 = .ok (.iload 5, 2) := by decide +kernel
theorem dX0_areaOfRests_34 : decode cX0_areaOfRests 34 = .ok (.isub, 1) := by decide +kernel
theorem dX0_areaOfRests_35 : decode cX0_areaOfRests 35 = .ok (.aload_n 1, 1) := by decide +kernel
theorem dX0_areaOfRests_36 : decode cX0_areaOfRests 36 = .ok (.iload_n 2, 1) := by decide +kernel
theorem dX0_areaOfRests_37 : decode cX0_areaOfRests 37 = .ok (.iload 5, 2) := by decide +kernel
theorem dX0_areaOfRests_39 : decode cX0_areaOfRests 39 = .ok (.invokevirtual 57, 3) := by decide +kernel
theorem dX0_areaOfRests_42 : decode cX0_areaOfRests 42 = .ok (.imul, 1) := by decide +kernel
theorem dX0_areaOfRests_43 : decode cX0_areaOfRests 43 = .ok (.iadd, 1) := by decide +kernel
theorem dX0_areaOfRests_44 : decode cX0_areaOfRests 44 = .ok (.istore_n 3, 1) := by decide +kernel
theorem dX0_areaOfRests_45 : decode cX0_areaOfRests 45 = .ok (.iload_n 2, 1) := by decide +kernel
theorem dX0_areaOfRests_46 : decode cX0_areaOfRests 46 = .ok (.iload 5, 2) := by decide +kernel
theorem dX0_areaOfRests_48 : decode cX0_areaOfRests 48 = .ok (.iadd, 1) := by decide +kernel
theorem dX0_areaOfRests_49 : decode cX0_areaOfRests 49 = .ok (.istore_n 2, 1) := by decide +kernel
theorem dX0_areaOfRests_50 : decode cX0_areaOfRests 50 = .ok (.iinc 4 1, 3) := by decide +kernel
theorem dX0_areaOfRests_53 : decode cX0_areaOfRests 53 = .ok (.goto (-46), 3) := by decide +kernel
theorem dX0_areaOfRests_56 : decode cX0_areaOfRests 56 = .ok (.iload_n 3, 1) := by decide +kernel
theorem dX0_areaOfRests_57 : decode cX0_areaOfRests 57 = .ok (.ireturn, 1) := by decide +kernel
theorem dX0_tightness_0 : decode cX0_tightness 0 = .ok (.aload_n 0, 1) := by decide +kernel
theorem dX0_tightness_1 : decode cX0_tightness 1 = .ok (.getfield 15, 3) := by decide +kernel
theorem dX0_tightness_4 : decode cX0_tightness 4 = .ok (.iload_n 1, 1) := by decide +kernel
theorem dX0_tightness_5 : decode cX0_tightness 5 = .ok (.invokestatic 61, 3) := by decide +kernel
theorem dX0_tightness_8 : decode cX0_tightness 8 = .ok (.ireturn, 1) := by decide +kernel
theorem dX0_isHooked_0 : decode cX0_isHooked 0 = .ok (.aload_n 0, 1) := by decide +kernel
theorem dX0_isHooked_1 : decode cX0_isHooked 1 = .ok (.getfield 36, 3) := by decide +kernel
theorem dX0_isHooked_4 : decode cX0_isHooked 4 = .ok (.iload_n 1, 1) := by decide +kernel
theorem dX0_isHooked_5 : decode cX0_isHooked 5 = .ok (.ishr, 1) := by decide +kernel
theorem dX0_isHooked_6 : decode cX0_isHooked 6 = .ok (.iconst 1, 1) := by decide +kernel
theorem dX0_isHooked_7 : decode cX0_isHooked 7 = .ok (.iand, 1) := by decide +kernel
theorem dX0_isHooked_8 : decode cX0_isHooked 8 = .ok (.iconst 1, 1) := by decide +kernel
theorem dX0_isHooked_9 : decode cX0_isHooked 9 = .ok (.if_icmp .ne 7, 3) := by decide +kernel
theorem dX0_isHooked_12 : decode cX0_isHooked 12 = .ok (.iconst 1, 1) := by decide +kernel
theorem dX0_isHooked_13 : decode cX0_isHooked 13 = .ok (.goto 4, 3) := by decide +kernel
theorem dX0_isHooked_16 : decode cX0_isHooked 16 = .ok (.iconst 0, 1) := by decide +kernel
theorem dX0_isHooked_17 : decode cX0_isHooked 17 = .ok (.ireturn, 1) := by decide +kernel
theorem dX0_isTorn_0 : decode cX0_isTorn 0 = .ok (.aload_n 0, 1) := by decide +kernel
theorem dX0_isTorn_1 : decode cX0_isTorn 1 = .ok (.getfield 39, 3) := by decide +kernel
theorem dX0_isTorn_4 : decode cX0_isTorn 4 = .ok (.iload_n 1, 1) := by decide +kernel
theorem dX0_isTorn_5 : decode cX0_isTorn 5 = .ok (.ishr, 1) := by decide +kernel
theorem dX0_isTorn_6 : decode cX0_isTorn 6 = .ok (.iconst 1, 1) := by decide +kernel
theorem dX0_isTorn_7 : decode cX0_isTorn 7 = .ok (.iand, 1) := by decide +kernel
theorem dX0_isTorn_8 : decode cX0_isTorn 8 = .ok (.iconst 1, 1) := by decide +kernel
theorem dX0_isTorn_9 : decode cX0_isTorn 9 = .ok (.if_icmp .ne 7, 3) := by decide +kernel
theorem dX0_isTorn_12 : decode cX0_isTorn 12 = .ok (.iconst 1, 1) := by decide +kernel
theorem dX0_isTorn_13 : decode cX0_isTorn 13 = .ok (.goto 4, 3) := by decide +kernel
theorem dX0_isTorn_16 : decode cX0_isTorn 16 = .ok (.iconst 0, 1) := by decide +kernel
theorem dX0_isTorn_17 : decode cX0_isTorn 17 = .ok (.ireturn, 1) := by decide +kernel
theorem dX0_isFree_0 : decode cX0_isFree 0 = .ok (.aload_n 0, 1) := by decide +kernel
theorem dX0_isFree_1 : decode cX0_isFree 1 = .ok (.iload_n 1, 1) := by decide +kernel
theorem dX0_isFree_2 : decode cX0_isFree 2 = .ok (.invokevirtual 69, 3) := by decide +kernel
theorem dX0_isFree_5 : decode cX0_isFree 5 = .ok (.ifCond .ne 15, 3) := by decide +kernel
theorem dX0_isFree_8 : decode cX0_isFree 8 = .ok (.aload_n 0, 1) := by decide +kernel
theorem dX0_isFree_9 : decode cX0_isFree 9 = .ok (.iload_n 1, 1) := by decide +kernel
theorem dX0_isFree_10 : decode cX0_isFree 10 = .ok (.invokevirtual 73, 3) := by decide +kernel
theorem dX0_isFree_13 : decode cX0_isFree 13 = .ok (.ifCond .ne 7, 3) := by decide +kernel
theorem dX0_isFree_16 : decode cX0_isFree 16 = .ok (.iconst 1, 1) := by decide +kernel
theorem dX0_isFree_17 : decode cX0_isFree 17 = .ok (.goto 4, 3) := by decide +kernel
theorem dX0_isFree_20 : decode cX0_isFree 20 = .ok (.iconst 0, 1) := by decide +kernel
theorem dX0_isFree_21 : decode cX0_isFree 21 = .ok (.ireturn, 1) := by decide +kernel
theorem dX0_isWaving_0 : decode cX0_isWaving 0 = .ok (.aload_n 0, 1) := by decide +kernel
theorem dX0_isWaving_1 : decode cX0_isWaving 1 = .ok (.iload_n 1, 1) := by decide +kernel
theorem dX0_isWaving_2 : decode cX0_isWaving 2 = .ok (.invokevirtual 69, 3) := by decide +kernel
theorem dX0_isWaving_5 : decode cX0_isWaving 5 = .ok (.ifCond .eq 16, 3) := by decide +kernel
theorem dX0_isWaving_8 : decode cX0_isWaving 8 = .ok (.aload_n 0, 1) := by decide +kernel
theorem dX0_isWaving_9 : decode cX0_isWaving 9 = .ok (.iload_n 1, 1) := by decide +kernel
theorem dX0_isWaving_10 : decode cX0_isWaving 10 = .ok (.invokevirtual 76, 3) := by decide +kernel
theorem dX0_isWaving_13 : decode cX0_isWaving 13 = .ok (.iconst 2, 1) := by decide +kernel
theorem dX0_isWaving_14 : decode cX0_isWaving 14 = .ok (.if_icmp .ge 7, 3) := by decide +kernel
theorem dX0_isWaving_17 : decode cX0_isWaving 17 = .ok (.iconst 1, 1) := by decide +kernel
theorem dX0_isWaving_18 : decode cX0_isWaving 18 = .ok (.goto 4, 3) := by decide +kernel
theorem dX0_isWaving_21 : decode cX0_isWaving 21 = .ok (.iconst 0, 1) := by decide +kernel
theorem dX0_isWaving_22 : decode cX0_isWaving 22 = .ok (.ireturn, 1) := by decide +kernel
theorem dX0_tightnessInAll_0 : decode cX0_tightnessInAll 0 = .ok (.iconst 0, 1) := by decide +kernel
theorem dX0_tightnessInAll_1 : decode cX0_tightnessInAll 1 = .ok (.istore_n 1, 1) := by decide +kernel
theorem dX0_tightnessInAll_2 : decode cX0_tightnessInAll 2 = .ok (.iconst 0, 1) := by decide +kernel
theorem dX0_tightnessInAll_3 : decode cX0_tightnessInAll 3 = .ok (.istore_n 2, 1) := by decide +kernel
theorem dX0_tightnessInAll_4 : decode cX0_tightnessInAll 4 = .ok (.iload_n 2, 1) := by decide +kernel
theorem dX0_tightnessInAll_5 : decode cX0_tightnessInAll 5 = .ok (.iconst 4, 1) := by decide +kernel
theorem dX0_tightnessInAll_6 : decode cX0_tightnessInAll 6 = .ok (.if_icmp .ge 17, 3) := by decide +kernel
theorem dX0_tightnessInAll_9 : decode cX0_tightnessInAll 9 = .ok (.iload_n 1, 1) := by decide +kernel
theorem dX0_tightnessInAll_10 : decode cX0_tightnessInAll 10 = .ok (.aload_n 0, 1) := by decide +kernel
theorem dX0_tightnessInAll_11 : decode cX0_tightnessInAll 11 = .ok (.iload_n 2, 1) := by decide +kernel
theorem dX0_tightnessInAll_12 : decode cX0_tightnessInAll 12 = .ok (.invokevirtual 76, 3) := by decide +kernel
theorem dX0_tightnessInAll_15 : decode cX0_tightnessInAll 15 = .ok (.iadd, 1) := by decide +kernel
theorem dX0_tightnessInAll_16 : decode cX0_tightnessInAll 16 = .ok (.istore_n 1, 1) := by decide +kernel
theorem dX0_tightnessInAll_17 : decode cX0_tightnessInAll 17 = .ok (.iinc 2 1, 3) := by decide +kernel
theorem dX0_tightnessInAll_20 : decode cX0_tightnessInAll 20 = .ok (.goto (-16), 3) := by decide +kernel
theorem dX0_tightnessInAll_23 : decode cX0_tightnessInAll 23 = .ok (.iload_n 1, 1) := by decide +kernel
theorem dX0_tightnessInAll_24 : decode cX0_tightnessInAll 24 = .ok (.ireturn, 1) := by decide +kernel
theorem dX0_tightnessBy_0 : decode cX0_tightnessBy 0 = .ok (.aload_n 0, 1) := by decide +kernel
theorem dX0_tightnessBy_1 : decode cX0_tightnessBy 1 = .ok (.getfield 36, 3) := by decide +kernel
theorem dX0_tightnessBy_4 : decode cX0_tightnessBy 4 = .ok (.ifCond .ne 5, 3) := by decide +kernel
theorem dX0_tightnessBy_7 : decode cX0_tightnessBy 7 = .ok (.iconst 2, 1) := by decide +kernel
theorem dX0_tightnessBy_8 : decode cX0_tightnessBy 8 = .ok (.ireturn, 1) := by decide +kernel
theorem dX0_tightnessBy_9 : decode cX0_tightnessBy 9 = .ok (.iload_n 2, 1) := by decide +kernel
theorem dX0_tightnessBy_10 : decode cX0_tightnessBy 10 = .ok (.iconst 2, 1) := by decide +kernel
theorem dX0_tightnessBy_11 : decode cX0_tightnessBy 11 = .ok (.iadd, 1) := by decide +kernel
theorem dX0_tightnessBy_12 : decode cX0_tightnessBy 12 = .ok (.iconst 4, 1) := by decide +kernel
theorem dX0_tightnessBy_13 : decode cX0_tightnessBy 13 = .ok (.irem, 1) := by decide +kernel
theorem dX0_tightnessBy_14 : decode cX0_tightnessBy 14 = .ok (.istore 4, 2) := by decide +kernel
theorem dX0_tightnessBy_16 : decode cX0_tightnessBy 16 = .ok (.aload_n 1, 1) := by decide +kernel
theorem dX0_tightnessBy_17 : decode cX0_tightnessBy 17 = .ok (.getfield 79, 3) := by decide +kernel
theorem dX0_tightnessBy_20 : decode cX0_tightnessBy 20 = .ok (.aload_n 1, 1) := by decide +kernel
theorem dX0_tightnessBy_21 : decode cX0_tightnessBy 21 = .ok (.getfield 82, 3) := by decide +kernel
theorem dX0_tightnessBy_24 : decode cX0_tightnessBy 24 = .ok (.aload_n 0, 1) := by decide +kernel
theorem dX0_tightnessBy_25 : decode cX0_tightnessBy 25 = .ok (.getfield 36, 3) := by decide +kernel
theorem dX0_tightnessBy_28 : decode cX0_tightnessBy 28 = .ok (.invokestatic 85, 3) := by decide +kernel
theorem dX0_tightnessBy_31 : decode cX0_tightnessBy 31 = .ok (.invokestatic 90, 3) := by decide +kernel
theorem dX0_tightnessBy_34 : decode cX0_tightnessBy 34 = .ok (.istore 5, 2) := by decide +kernel
theorem dX0_tightnessBy_36 : decode cX0_tightnessBy 36 = .ok (.iconst 0, 1) := by decide +kernel
theorem dX0_tightnessBy_37 : decode cX0_tightnessBy 37 = .ok (.iload_n 3, 1) := by decide +kernel
theorem dX0_tightnessBy_38 : decode cX0_tightnessBy 38 = .ok (.aload_n 0, 1) := by decide +kernel
theorem dX0_tightnessBy_39 : decode cX0_tightnessBy 39 = .ok (.iload 4, 2) := by decide +kernel
theorem dX0_tightnessBy_41 : decode cX0_tightnessBy 41 = .ok (.invokevirtual 76, 3) := by decide +kernel
theorem dX0_tightnessBy_44 : decode cX0_tightnessBy 44 = .ok (.iconst 2, 1) := by decide +kernel
theorem dX0_tightnessBy_45 : decode cX0_tightnessBy 45 = .ok (.idiv, 1) := by decide +kernel
theorem dX0_tightnessBy_46 : decode cX0_tightnessBy 46 = .ok (.iadd, 1) := by decide +kernel
theorem dX0_tightnessBy_47 : decode cX0_tightnessBy 47 = .ok (.iload 5, 2) := by decide +kernel
theorem dX0_tightnessBy_49 : decode cX0_tightnessBy 49 = .ok (.isub, 1) := by decide +kernel
theorem dX0_tightnessBy_50 : decode cX0_tightnessBy 50 = .ok (.invokestatic 94, 3) := by decide +kernel
theorem dX0_tightnessBy_53 : decode cX0_tightnessBy 53 = .ok (.ireturn, 1) := by decide +kernel
theorem dX0_leastKick_0 : decode cX0_leastKick 0 = .ok (.iconst 0, 1) := by decide +kernel
theorem dX0_leastKick_1 : decode cX0_leastKick 1 = .ok (.istore 4, 2) := by decide +kernel
theorem dX0_leastKick_3 : decode cX0_leastKick 3 = .ok (.iload 4, 2) := by decide +kernel
theorem dX0_leastKick_5 : decode cX0_leastKick 5 = .ok (.bipush 20, 2) := by decide +kernel
theorem dX0_leastKick_7 : decode cX0_leastKick 7 = .ok (.if_icmp .gt 37, 3) := by decide +kernel
theorem dX0_leastKick_10 : decode cX0_leastKick 10 = .ok (.aload_n 0, 1) := by decide +kernel
theorem dX0_leastKick_11 : decode cX0_leastKick 11 = .ok (.aload_n 1, 1) := by decide +kernel
theorem dX0_leastKick_12 : decode cX0_leastKick 12 = .ok (.iload_n 2, 1) := by decide +kernel
theorem dX0_leastKick_13 : decode cX0_leastKick 13 = .ok (.iload 4, 2) := by decide +kernel
theorem dX0_leastKick_15 : decode cX0_leastKick 15 = .ok (.invokevirtual 99, 3) := by decide +kernel
theorem dX0_leastKick_18 : decode cX0_leastKick 18 = .ok (.istore 5, 2) := by decide +kernel
theorem dX0_leastKick_20 : decode cX0_leastKick 20 = .ok (.iload 5, 2) := by decide +kernel
theorem dX0_leastKick_22 : decode cX0_leastKick 22 = .ok (.iload_n 3, 1) := by decide +kernel
theorem dX0_leastKick_23 : decode cX0_leastKick 23 = .ok (.if_icmp .lt 15, 3) := by decide +kernel
theorem dX0_leastKick_26 : decode cX0_leastKick 26 = .ok (.iload 5, 2) := by decide +kernel
theorem dX0_leastKick_28 : decode cX0_leastKick 28 = .ok (.aload_n 1, 1) := by decide +kernel
theorem dX0_leastKick_29 : decode cX0_leastKick 29 = .ok (.getfield 103, 3) := by decide +kernel
theorem dX0_leastKick_32 : decode cX0_leastKick 32 = .ok (.if_icmp .gt 6, 3) := by decide +kernel
theorem dX0_leastKick_35 : decode cX0_leastKick 35 = .ok (.iload 4, 2) := by decide +kernel
theorem dX0_leastKick_37 : decode cX0_leastKick 37 = .ok (.ireturn, 1) := by decide +kernel
theorem dX0_leastKick_38 : decode cX0_leastKick 38 = .ok (.iinc 4 1, 3) := by decide +kernel
theorem dX0_leastKick_41 : decode cX0_leastKick 41 = .ok (.goto (-38), 3) := by decide +kernel
theorem dX0_leastKick_44 : decode cX0_leastKick 44 = .ok (.bipush (-4), 2) := by decide +kernel
theorem dX0_leastKick_46 : decode cX0_leastKick 46 = .ok (.ireturn, 1) := by decide +kernel
theorem dX0_hookOn_0 : decode cX0_hookOn 0 = .ok (.aload_n 0, 1) := by decide +kernel
theorem dX0_hookOn_1 : decode cX0_hookOn 1 = .ok (.aload_n 1, 1) := by decide +kernel
theorem dX0_hookOn_2 : decode cX0_hookOn 2 = .ok (.iload_n 2, 1) := by decide +kernel
theorem dX0_hookOn_3 : decode cX0_hookOn 3 = .ok (.iload_n 3, 1) := by decide +kernel
theorem dX0_hookOn_4 : decode cX0_hookOn 4 = .ok (.invokevirtual 99, 3) := by decide +kernel
theorem dX0_hookOn_7 : decode cX0_hookOn 7 = .ok (.istore 4, 2) := by decide +kernel
theorem dX0_hookOn_9 : decode cX0_hookOn 9 = .ok (.iload 4, 2) := by decide +kernel
theorem dX0_hookOn_11 : decode cX0_hookOn 11 = .ok (.aload_n 1, 1) := by decide +kernel
theorem dX0_hookOn_12 : decode cX0_hookOn 12 = .ok (.getfield 103, 3) := by decide +kernel
theorem dX0_hookOn_15 : decode cX0_hookOn 15 = .ok (.if_icmp .le 17, 3) := by decide +kernel
theorem dX0_hookOn_18 : decode cX0_hookOn 18 = .ok (.aload_n 0, 1) := by decide +kernel
theorem dX0_hookOn_19 : decode cX0_hookOn 19 = .ok (.dup, 1) := by decide +kernel
theorem dX0_hookOn_20 : decode cX0_hookOn 20 = .ok (.getfield 39, 3) := by decide +kernel
theorem dX0_hookOn_23 : decode cX0_hookOn 23 = .ok (.iconst 1, 1) := by decide +kernel
theorem dX0_hookOn_24 : decode cX0_hookOn 24 = .ok (.iload_n 2, 1) := by decide +kernel
theorem dX0_hookOn_25 : decode cX0_hookOn 25 = .ok (.ishl, 1) := by decide +kernel
theorem dX0_hookOn_26 : decode cX0_hookOn 26 = .ok (.ior, 1) := by decide +kernel
theorem dX0_hookOn_27 : decode cX0_hookOn 27 = .ok (.putfield 39, 3) := by decide +kernel
theorem dX0_hookOn_30 : decode cX0_hookOn 30 = .ok (.iconst 0, 1) := by decide +kernel
theorem dX0_hookOn_31 : decode cX0_hookOn 31 = .ok (.ireturn, 1) := by decide +kernel
theorem dX0_hookOn_32 : decode cX0_hookOn 32 = .ok (.aload_n 0, 1) := by decide +kernel
theorem dX0_hookOn_33 : decode cX0_hookOn 33 = .ok (.dup, 1) := by decide +kernel
theorem dX0_hookOn_34 : decode cX0_hookOn 34 = .ok (.getfield 36, 3) := by decide +kernel
theorem dX0_hookOn_37 : decode cX0_hookOn 37 = .ok (.iconst 1, 1) := by decide +kernel
theorem dX0_hookOn_38 : decode cX0_hookOn 38 = .ok (.iload_n 2, 1) := by decide +kernel
theorem dX0_hookOn_39 : decode cX0_hookOn 39 = .ok (.ishl, 1) := by decide +kernel
theorem dX0_hookOn_40 : decode cX0_hookOn 40 = .ok (.ior, 1) := by decide +kernel
theorem dX0_hookOn_41 : decode cX0_hookOn 41 = .ok (.putfield 36, 3) := by decide +kernel
theorem dX0_hookOn_44 : decode cX0_hookOn 44 = .ok (.aload_n 0, 1) := by decide +kernel
theorem dX0_hookOn_45 : decode cX0_hookOn 45 = .ok (.getfield 15, 3) := by decide +kernel
theorem dX0_hookOn_48 : decode cX0_hookOn 48 = .ok (.iload_n 2, 1) := by decide +kernel
theorem dX0_hookOn_49 : decode cX0_hookOn 49 = .ok (.iload 4, 2) := by decide +kernel
theorem dX0_hookOn_51 : decode cX0_hookOn 51 = .ok (.invokestatic 22, 3) := by decide +kernel
theorem dX0_hookOn_54 : decode cX0_hookOn 54 = .ok (.iload 4, 2) := by decide +kernel
theorem dX0_hookOn_56 : decode cX0_hookOn 56 = .ok (.ireturn, 1) := by decide +kernel
theorem dX0_unhook_0 : decode cX0_unhook 0 = .ok (.aload_n 0, 1) := by decide +kernel
theorem dX0_unhook_1 : decode cX0_unhook 1 = .ok (.iload_n 1, 1) := by decide +kernel
theorem dX0_unhook_2 : decode cX0_unhook 2 = .ok (.invokevirtual 76, 3) := by decide +kernel
theorem dX0_unhook_5 : decode cX0_unhook 5 = .ok (.istore_n 2, 1) := by decide +kernel
theorem dX0_unhook_6 : decode cX0_unhook 6 = .ok (.aload_n 0, 1) := by decide +kernel
theorem dX0_unhook_7 : decode cX0_unhook 7 = .ok (.dup, 1) := by decide +kernel
theorem dX0_unhook_8 : decode cX0_unhook 8 = .ok (.getfield 36, 3) := by decide +kernel
theorem dX0_unhook_11 : decode cX0_unhook 11 = .ok (.iconst 1, 1) := by decide +kernel
theorem dX0_unhook_12 : decode cX0_unhook 12 = .ok (.iload_n 1, 1) := by decide +kernel
theorem dX0_unhook_13 : decode cX0_unhook 13 = .ok (.ishl, 1) := by decide +kernel
theorem dX0_unhook_14 : decode cX0_unhook 14 = .ok (.iconst (-1), 1) := by decide +kernel
theorem dX0_unhook_15 : decode cX0_unhook 15 = .ok (.ixor, 1) := by decide +kernel
theorem dX0_unhook_16 : decode cX0_unhook 16 = .ok (.iand, 1) := by decide +kernel
theorem dX0_unhook_17 : decode cX0_unhook 17 = .ok (.putfield 36, 3) := by decide +kernel
theorem dX0_unhook_20 : decode cX0_unhook 20 = .ok (.aload_n 0, 1) := by decide +kernel
theorem dX0_unhook_21 : decode cX0_unhook 21 = .ok (.getfield 15, 3) := by decide +kernel
theorem dX0_unhook_24 : decode cX0_unhook 24 = .ok (.iload_n 1, 1) := by decide +kernel
theorem dX0_unhook_25 : decode cX0_unhook 25 = .ok (.iconst 0, 1) := by decide +kernel
theorem dX0_unhook_26 : decode cX0_unhook 26 = .ok (.invokestatic 22, 3) := by decide +kernel
theorem dX0_unhook_29 : decode cX0_unhook 29 = .ok (.iload_n 2, 1) := by decide +kernel
theorem dX0_unhook_30 : decode cX0_unhook 30 = .ok (.ireturn, 1) := by decide +kernel
theorem dX0_passMonth_0 : decode cX0_passMonth 0 = .ok (.aload_n 1, 1) := by decide +kernel
theorem dX0_passMonth_1 : decode cX0_passMonth 1 = .ok (.aload_n 0, 1) := by decide +kernel
theorem dX0_passMonth_2 : decode cX0_passMonth 2 = .ok (.getfield 42, 3) := by decide +kernel
theorem dX0_passMonth_5 : decode cX0_passMonth 5 = .ok (.invokevirtual 106, 3) := by decide +kernel
theorem dX0_passMonth_8 : decode cX0_passMonth 8 = .ok (.istore_n 2, 1) := by decide +kernel
theorem dX0_passMonth_9 : decode cX0_passMonth 9 = .ok (.iconst 0, 1) := by decide +kernel
theorem dX0_passMonth_10 : decode cX0_passMonth 10 = .ok (.istore_n 3, 1) := by decide +kernel
theorem dX0_passMonth_11 : decode cX0_passMonth 11 = .ok (.iload_n 3, 1) := by decide +kernel
theorem dX0_passMonth_12 : decode cX0_passMonth 12 = .ok (.iconst 4, 1) := by decide +kernel
theorem dX0_passMonth_13 : decode cX0_passMonth 13 = .ok (.if_icmp .ge 28, 3) := by decide +kernel
theorem dX0_passMonth_16 : decode cX0_passMonth 16 = .ok (.aload_n 0, 1) := by decide +kernel
theorem dX0_passMonth_17 : decode cX0_passMonth 17 = .ok (.getfield 15, 3) := by decide +kernel
theorem dX0_passMonth_20 : decode cX0_passMonth 20 = .ok (.iload_n 3, 1) := by decide +kernel
theorem dX0_passMonth_21 : decode cX0_passMonth 21 = .ok (.iconst 0, 1) := by decide +kernel
theorem dX0_passMonth_22 : decode cX0_passMonth 22 = .ok (.aload_n 0, 1) := by decide +kernel
theorem dX0_passMonth_23 : decode cX0_passMonth 23 = .ok (.iload_n 3, 1) := by decide +kernel
theorem dX0_passMonth_24 : decode cX0_passMonth 24 = .ok (.invokevirtual 76, 3) := by decide +kernel
theorem dX0_passMonth_27 : decode cX0_passMonth 27 = .ok (.iload_n 2, 1) := by decide +kernel
theorem dX0_passMonth_28 : decode cX0_passMonth 28 = .ok (.isub, 1) := by decide +kernel
theorem dX0_passMonth_29 : decode cX0_passMonth 29 = .ok (.invokestatic 94, 3) := by decide +kernel
theorem dX0_passMonth_32 : decode cX0_passMonth 32 = .ok (.invokestatic 22, 3) := by decide +kernel
theorem dX0_passMonth_35 : decode cX0_passMonth 35 = .ok (.iinc 3 1, 3) := by decide +kernel
theorem dX0_passMonth_38 : decode cX0_passMonth 38 = .ok (.goto (-27), 3) := by decide +kernel
theorem dX0_passMonth_41 : decode cX0_passMonth 41 = .ok (.aload_n 0, 1) := by decide +kernel
theorem dX0_passMonth_42 : decode cX0_passMonth 42 = .ok (.dup, 1) := by decide +kernel
theorem dX0_passMonth_43 : decode cX0_passMonth 43 = .ok (.getfield 42, 3) := by decide +kernel
theorem dX0_passMonth_46 : decode cX0_passMonth 46 = .ok (.iconst 1, 1) := by decide +kernel
theorem dX0_passMonth_47 : decode cX0_passMonth 47 = .ok (.iadd, 1) := by decide +kernel
theorem dX0_passMonth_48 : decode cX0_passMonth 48 = .ok (.putfield 42, 3) := by decide +kernel
theorem dX0_passMonth_51 : decode cX0_passMonth 51 = .ok (.return_, 1) := by decide +kernel
theorem dX0_monthsToWave_0 : decode cX0_monthsToWave 0 = .ok (.aload_n 0, 1) := by decide +kernel
theorem dX0_monthsToWave_1 : decode cX0_monthsToWave 1 = .ok (.iload_n 2, 1) := by decide +kernel
theorem dX0_monthsToWave_2 : decode cX0_monthsToWave 2 = .ok (.invokevirtual 76, 3) := by decide +kernel
theorem dX0_monthsToWave_5 : decode cX0_monthsToWave 5 = .ok (.istore_n 3, 1) := by decide +kernel
theorem dX0_monthsToWave_6 : decode cX0_monthsToWave 6 = .ok (.iconst 0, 1) := by decide +kernel
theorem dX0_monthsToWave_7 : decode cX0_monthsToWave 7 = .ok (.istore 4, 2) := by decide +kernel
theorem dX0_monthsToWave_9 : decode cX0_monthsToWave 9 = .ok (.iload 4, 2) := by decide +kernel
theorem dX0_monthsToWave_11 : decode cX0_monthsToWave 11 = .ok (.bipush 60, 2) := by decide +kernel
theorem dX0_monthsToWave_13 : decode cX0_monthsToWave 13 = .ok (.if_icmp .gt 31, 3) := by decide +kernel
theorem dX0_monthsToWave_16 : decode cX0_monthsToWave 16 = .ok (.iload_n 3, 1) := by decide +kernel
theorem dX0_monthsToWave_17 : decode cX0_monthsToWave 17 = .ok (.iconst 2, 1) := by decide +kernel
theorem dX0_monthsToWave_18 : decode cX0_monthsToWave 18 = .ok (.if_icmp .ge 6, 3) := by decide +kernel
theorem dX0_monthsToWave_21 : decode cX0_monthsToWave 21 = .ok (.iload 4, 2) := by decide +kernel
theorem dX0_monthsToWave_23 : decode cX0_monthsToWave 23 = .ok (.ireturn, 1) := by decide +kernel
theorem dX0_monthsToWave_24 : decode cX0_monthsToWave 24 = .ok (.iload_n 3, 1) := by decide +kernel
theorem dX0_monthsToWave_25 : decode cX0_monthsToWave 25 = .ok (.aload_n 1, 1) := by decide +kernel
theorem dX0_monthsToWave_26 : decode cX0_monthsToWave 26 = .ok (.aload_n 0, 1) := by decide +kernel
theorem dX0_monthsToWave_27 : decode cX0_monthsToWave 27 = .ok (.getfield 42, 3) := by decide +kernel
theorem dX0_monthsToWave_30 : decode cX0_monthsToWave 30 = .ok (.iload 4, 2) := by decide +kernel
theorem dX0_monthsToWave_32 : decode cX0_monthsToWave 32 = .ok (.iadd, 1) := by decide +kernel
theorem dX0_monthsToWave_33 : decode cX0_monthsToWave 33 = .ok (.invokevirtual 106, 3) := by decide +kernel
theorem dX0_monthsToWave_36 : decode cX0_monthsToWave 36 = .ok (.isub, 1) := by decide +kernel
theorem dX0_monthsToWave_37 : decode cX0_monthsToWave 37 = .ok (.istore_n 3, 1) := by decide +kernel
theorem dX0_monthsToWave_38 : decode cX0_monthsToWave 38 = .ok (.iinc 4 1, 3) := by decide +kernel
theorem dX0_monthsToWave_41 : decode cX0_monthsToWave 41 = .ok (.goto (-32), 3) := by decide +kernel
theorem dX0_monthsToWave_44 : decode cX0_monthsToWave 44 = .ok (.bipush 61, 2) := by decide +kernel
theorem dX0_monthsToWave_46 : decode cX0_monthsToWave 46 = .ok (.ireturn, 1) := by decide +kernel
theorem dX0_takeStep_0 : decode cX0_takeStep 0 = .ok (.iload_n 2, 1) := by decide +kernel
theorem dX0_takeStep_1 : decode cX0_takeStep 1 = .ok (.iconst 4, 1) := by decide +kernel
theorem dX0_takeStep_2 : decode cX0_takeStep 2 = .ok (.irem, 1) := by decide +kernel
theorem dX0_takeStep_3 : decode cX0_takeStep 3 = .ok (.istore_n 3, 1) := by decide +kernel
theorem dX0_takeStep_4 : decode cX0_takeStep 4 = .ok (.aload_n 0, 1) := by decide +kernel
theorem dX0_takeStep_5 : decode cX0_takeStep 5 = .ok (.iload_n 3, 1) := by decide +kernel
theorem dX0_takeStep_6 : decode cX0_takeStep 6 = .ok (.invokevirtual 69, 3) := by decide +kernel
theorem dX0_takeStep_9 : decode cX0_takeStep 9 = .ok (.ifCond .eq 20, 3) := by decide +kernel
theorem dX0_takeStep_12 : decode cX0_takeStep 12 = .ok (.iload_n 2, 1) := by decide +kernel
theorem dX0_takeStep_13 : decode cX0_takeStep 13 = .ok (.iconst 4, 1) := by decide +kernel
theorem dX0_takeStep_14 : decode cX0_takeStep 14 = .ok (.idiv, 1) := by decide +kernel
theorem dX0_takeStep_15 : decode cX0_takeStep 15 = .ok (.iconst 5, 1) := by decide +kernel
theorem dX0_takeStep_16 : decode cX0_takeStep 16 = .ok (.irem, 1) := by decide +kernel
theorem dX0_takeStep_17 : decode cX0_takeStep 17 = .ok (.ifCond .ne 34, 3) := by decide +kernel
theorem dX0_takeStep_20 : decode cX0_takeStep 20 = .ok (.aload_n 0, 1) := by decide +kernel
theorem dX0_takeStep_21 : decode cX0_takeStep 21 = .ok (.iload_n 3, 1) := by decide +kernel
theorem dX0_takeStep_22 : decode cX0_takeStep 22 = .ok (.invokevirtual 109, 3) := by decide +kernel
theorem dX0_takeStep_25 : decode cX0_takeStep 25 = .ok (.pop, 1) := by decide +kernel
theorem dX0_takeStep_26 : decode cX0_takeStep 26 = .ok (.goto 25, 3) := by decide +kernel
theorem dX0_takeStep_29 : decode cX0_takeStep 29 = .ok (.aload_n 0, 1) := by decide +kernel
theorem dX0_takeStep_30 : decode cX0_takeStep 30 = .ok (.iload_n 3, 1) := by decide +kernel
theorem dX0_takeStep_31 : decode cX0_takeStep 31 = .ok (.invokevirtual 112, 3) := by decide +kernel
theorem dX0_takeStep_34 : decode cX0_takeStep 34 = .ok (.ifCond .eq 17, 3) := by decide +kernel
theorem dX0_takeStep_37 : decode cX0_takeStep 37 = .ok (.aload_n 0, 1) := by decide +kernel
theorem dX0_takeStep_38 : decode cX0_takeStep 38 = .ok (.aload_n 1, 1) := by decide +kernel
theorem dX0_takeStep_39 : decode cX0_takeStep 39 = .ok (.iload_n 3, 1) := by decide +kernel
theorem dX0_takeStep_40 : decode cX0_takeStep 40 = .ok (.iload_n 2, 1) := by decide +kernel
theorem dX0_takeStep_41 : decode cX0_takeStep 41 = .ok (.bipush 32, 2) := by decide +kernel
theorem dX0_takeStep_43 : decode cX0_takeStep 43 = .ok (.idiv, 1) := by decide +kernel
theorem dX0_takeStep_44 : decode cX0_takeStep 44 = .ok (.bipush 16, 2) := by decide +kernel
theorem dX0_takeStep_46 : decode cX0_takeStep 46 = .ok (.irem, 1) := by decide +kernel
theorem dX0_takeStep_47 : decode cX0_takeStep 47 = .ok (.invokevirtual 115, 3) := by decide +kernel
theorem dX0_takeStep_50 : decode cX0_takeStep 50 = .ok (.pop, 1) := by decide +kernel
theorem dX0_takeStep_51 : decode cX0_takeStep 51 = .ok (.iload_n 2, 1) := by decide +kernel
theorem dX0_takeStep_52 : decode cX0_takeStep 52 = .ok (.sipush 512, 3) := by decide +kernel
theorem dX0_takeStep_55 : decode cX0_takeStep 55 = .ok (.idiv, 1) := by decide +kernel
theorem dX0_takeStep_56 : decode cX0_takeStep 56 = .ok (.iconst 3, 1) := by decide +kernel
theorem dX0_takeStep_57 : decode cX0_takeStep 57 = .ok (.irem, 1) := by decide +kernel
theorem dX0_takeStep_58 : decode cX0_takeStep 58 = .ok (.ifCond .ne 8, 3) := by decide +kernel
theorem dX0_takeStep_61 : decode cX0_takeStep 61 = .ok (.aload_n 0, 1) := by decide +kernel
theorem dX0_takeStep_62 : decode cX0_takeStep 62 = .ok (.aload_n 1, 1) := by decide +kernel
theorem dX0_takeStep_63 : decode cX0_takeStep 63 = .ok (.invokevirtual 118, 3) := by decide +kernel
theorem dX0_takeStep_66 : decode cX0_takeStep 66 = .ok (.return_, 1) := by decide +kernel
theorem dX1_init_0 : decode cX1_init 0 = .ok (.aload_n 0, 1) := by decide +kernel
theorem dX1_init_1 : decode cX1_init 1 = .ok (.invokespecial 3, 3) := by decide +kernel
theorem dX1_init_4 : decode cX1_init 4 = .ok (.aload_n 0, 1) := by decide +kernel
theorem dX1_init_5 : decode cX1_init 5 = .ok (.bipush 13, 2) := by decide +kernel
theorem dX1_init_7 : decode cX1_init 7 = .ok (.newarray .int, 2) := by decide +kernel
theorem dX1_init_9 : decode cX1_init 9 = .ok (.putfield 9, 3) := by decide +kernel
theorem dX1_init_12 : decode cX1_init 12 = .ok (.aload_n 0, 1) := by decide +kernel
theorem dX1_init_13 : decode cX1_init 13 = .ok (.bipush 13, 2) := by decide +kernel
theorem dX1_init_15 : decode cX1_init 15 = .ok (.newarray .int, 2) := by decide +kernel
theorem dX1_init_17 : decode cX1_init 17 = .ok (.putfield 15, 3) := by decide +kernel
theorem dX1_init_20 : decode cX1_init 20 = .ok (.aload_n 0, 1) := by decide +kernel
theorem dX1_init_21 : decode cX1_init 21 = .ok (.bipush 13, 2) := by decide +kernel
theorem dX1_init_23 : decode cX1_init 23 = .ok (.newarray .int, 2) := by decide +kernel
theorem dX1_init_25 : decode cX1_init 25 = .ok (.putfield 18, 3) := by decide +kernel
theorem dX1_init_28 : decode cX1_init 28 = .ok (.aload_n 0, 1) := by decide +kernel
theorem dX1_init_29 : decode cX1_init 29 = .ok (.iconst 0, 1) := by decide +kernel
theorem dX1_init_30 : decode cX1_init 30 = .ok (.putfield 21, 3) := by decide +kernel
theorem dX1_init_33 : decode cX1_init 33 = .ok (.return_, 1) := by decide +kernel
theorem dX1_make_0 : decode cX1_make 0 = .ok (.aload_n 0, 1) := by decide +kernel
theorem dX1_make_1 : decode cX1_make 1 = .ok (.aload_n 2, 1) := by decide +kernel
theorem dX1_make_2 : decode cX1_make 2 = .ok (.getfield 25, 3) := by decide +kernel
theorem dX1_make_5 : decode cX1_make 5 = .ok (.putfield 31, 3) := by decide +kernel
theorem dX1_make_8 : decode cX1_make 8 = .ok (.aload_n 0, 1) := by decide +kernel
theorem dX1_make_9 : decode cX1_make 9 = .ok (.aload_n 1, 1) := by decide +kernel
theorem dX1_make_10 : decode cX1_make 10 = .ok (.getfield 34, 3) := by decide +kernel
theorem dX1_make_13 : decode cX1_make 13 = .ok (.putfield 39, 3) := by decide +kernel
theorem dX1_make_16 : decode cX1_make 16 = .ok (.aload_n 0, 1) := by decide +kernel
theorem dX1_make_17 : decode cX1_make 17 = .ok (.getfield 9, 3) := by decide +kernel
theorem dX1_make_20 : decode cX1_make 20 = .ok (.aload_n 0, 1) := by decide +kernel
theorem dX1_make_21 : decode cX1_make 21 = .ok (.getfield 39, 3) := by decide +kernel
theorem dX1_make_24 : decode cX1_make 24 = .ok (.iconst 0, 1) := by decide +kernel
theorem dX1_make_25 : decode cX1_make 25 = .ok (.invokestatic 42, 3) := by decide +kernel
theorem dX1_make_28 : decode cX1_make 28 = .ok (.aload_n 0, 1) := by decide +kernel
theorem dX1_make_29 : decode cX1_make 29 = .ok (.getfield 15, 3) := by decide +kernel
theorem dX1_make_32 : decode cX1_make 32 = .ok (.aload_n 0, 1) := by decide +kernel
theorem dX1_make_33 : decode cX1_make 33 = .ok (.getfield 39, 3) := by decide +kernel
theorem dX1_make_36 : decode cX1_make 36 = .ok (.iconst 0, 1) := by decide +kernel
theorem dX1_make_37 : decode cX1_make 37 = .ok (.invokestatic 42, 3) := by decide +kernel
theorem dX1_make_40 : decode cX1_make 40 = .ok (.aload_n 0, 1) := by decide +kernel
theorem dX1_make_41 : decode cX1_make 41 = .ok (.getfield 39, 3) := by decide +kernel
theorem dX1_make_44 : decode cX1_make 44 = .ok (.iconst 1, 1) := by decide +kernel
theorem dX1_make_45 : decode cX1_make 45 = .ok (.isub, 1) := by decide +kernel
theorem dX1_make_46 : decode cX1_make 46 = .ok (.istore_n 3, 1) := by decide +kernel
theorem dX1_make_47 : decode cX1_make 47 = .ok (.iload_n 3, 1) := by decide +kernel
theorem dX1_make_48 : decode cX1_make 48 = .ok (.aload_n 0, 1) := by decide +kernel
theorem dX1_make_49 : decode cX1_make 49 = .ok (.getfield 31, 3) := by decide +kernel
theorem dX1_make_52 : decode cX1_make 52 = .ok (.if_icmp .lt 15, 3) := by decide +kernel
theorem dX1_make_55 : decode cX1_make 55 = .ok (.aload_n 0, 1) := by decide +kernel
theorem dX1_make_56 : decode cX1_make 56 = .ok (.aload_n 1, 1) := by decide +kernel
theorem dX1_make_57 : decode cX1_make 57 = .ok (.iload_n 3, 1) := by decide +kernel
theorem dX1_make_58 : decode cX1_make 58 = .ok (.invokevirtual 46, 3) := by decide +kernel
theorem dX1_make_61 : decode cX1_make 61 = .ok (.iinc 3 (-1), 3) := by decide +kernel
theorem dX1_make_64 : decode cX1_make 64 = .ok (.goto (-17), 3) := by decide +kernel
theorem dX1_make_67 : decode cX1_make 67 = .ok (.aload_n 0, 1) := by decide +kernel
theorem dX1_make_68 : decode cX1_make 68 = .ok (.aload_n 0, 1) := by decide +kernel
theorem dX1_make_69 : decode cX1_make 69 = .ok (.getfield 9, 3) := by decide +kernel
theorem dX1_make_72 : decode cX1_make 72 = .ok (.aload_n 0, 1) := by decide +kernel
theorem dX1_make_73 : decode cX1_make 73 = .ok (.getfield 31, 3) := by decide +kernel
theorem dX1_make_76 : decode cX1_make 76 = .ok (.invokestatic 50, 3) := by decide +kernel
theorem dX1_make_79 : decode cX1_make 79 = .ok (.putfield 54, 3) := by decide +kernel
theorem dX1_make_82 : decode cX1_make 82 = .ok (.aload_n 0, 1) := by decide +kernel
theorem dX1_make_83 : decode cX1_make 83 = .ok (.aload_n 0, 1) := by decide +kernel
theorem dX1_make_84 : decode cX1_make 84 = .ok (.getfield 15, 3) := by decide +kernel
theorem dX1_make_87 : decode cX1_make 87 = .ok (.aload_n 0, 1) := by decide +kernel
theorem dX1_make_88 : decode cX1_make 88 = .ok (.getfield 31, 3) := by decide +kernel
theorem dX1_make_91 : decode cX1_make 91 = .ok (.invokestatic 50, 3) := by decide +kernel
theorem dX1_make_94 : decode cX1_make 94 = .ok (.putfield 57, 3) := by decide +kernel
theorem dX1_make_97 : decode cX1_make 97 = .ok (.aload_n 0, 1) := by decide +kernel
theorem dX1_make_98 : decode cX1_make 98 = .ok (.aload_n 0, 1) := by decide +kernel
theorem dX1_make_99 : decode cX1_make 99 = .ok (.getfield 54, 3) := by decide +kernel
theorem dX1_make_102 : decode cX1_make 102 = .ok (.aload_n 2, 1) := by decide +kernel
theorem dX1_make_103 : decode cX1_make 103 = .ok (.getfield 60, 3) := by decide +kernel
theorem dX1_make_106 : decode cX1_make 106 = .ok (.if_icmp .gt 7, 3) := by decide +kernel
theorem dX1_make_109 : decode cX1_make 109 = .ok (.iconst 1, 1) := by decide +kernel
theorem dX1_make_110 : decode cX1_make 110 = .ok (.goto 4, 3) := by decide +kernel
theorem dX1_make_113 : decode cX1_make 113 = .ok (.iconst 0, 1) := by decide +kernel
theorem dX1_make_114 : decode cX1_make 114 = .ok (.putfield 21, 3) := by decide +kernel
theorem dX1_make_117 : decode cX1_make 117 = .ok (.return_, 1) := by decide +kernel
theorem dX1_choose_0 : decode cX1_choose 0 = .ok (.iload_n 2, 1) := by decide +kernel
theorem dX1_choose_1 : decode cX1_choose 1 = .ok (.ifCond .le 21, 3) := by decide +kernel
theorem dX1_choose_4 : decode cX1_choose 4 = .ok (.aload_n 1, 1) := by decide +kernel
theorem dX1_choose_5 : decode cX1_choose 5 = .ok (.iload_n 2, 1) := by decide +kernel
theorem dX1_choose_6 : decode cX1_choose 6 = .ok (.iconst 1, 1) := by decide +kernel
theorem dX1_choose_7 : decode cX1_choose 7 = .ok (.isub, 1) := by decide +kernel
theorem dX1_choose_8 : decode cX1_choose 8 = .ok (.invokevirtual 63, 3) := by decide +kernel
theorem dX1_choose_11 : decode cX1_choose 11 = .ok (.aload_n 1, 1) := by decide +kernel
theorem dX1_choose_12 : decode cX1_choose 12 = .ok (.iload_n 2, 1) := by decide +kernel
theorem dX1_choose_13 : decode cX1_choose 13 = .ok (.iconst 1, 1) := by decide +kernel
theorem dX1_choose_14 : decode cX1_choose 14 = .ok (.isub, 1) := by decide +kernel
theorem dX1_choose_15 : decode cX1_choose 15 = .ok (.invokevirtual 67, 3) := by decide +kernel
theorem dX1_choose_18 : decode cX1_choose 18 = .ok (.iadd, 1) := by decide +kernel
theorem dX1_choose_19 : decode cX1_choose 19 = .ok (.goto 4, 3) := by decide +kernel
theorem dX1_choose_22 : decode cX1_choose 22 = .ok (.iconst 0, 1) := by decide +kernel
theorem dX1_choose_23 : decode cX1_choose 23 = .ok (.istore_n 3, 1) := by decide +kernel
theorem dX1_choose_24 : decode cX1_choose 24 = .ok (.aload_n 1, 1) := by decide +kernel
theorem dX1_choose_25 : decode cX1_choose 25 = .ok (.getfield 70, 3) := by decide +kernel
theorem dX1_choose_28 : decode cX1_choose 28 = .ok (.aload_n 0, 1) := by decide +kernel
theorem dX1_choose_29 : decode cX1_choose 29 = .ok (.getfield 39, 3) := by decide +kernel
theorem dX1_choose_32 : decode cX1_choose 32 = .ok (.iload_n 2, 1) := by decide +kernel
theorem dX1_choose_33 : decode cX1_choose 33 = .ok (.isub, 1) := by decide +kernel
theorem dX1_choose_34 : decode cX1_choose 34 = .ok (.invokestatic 73, 3) := by decide +kernel
theorem dX1_choose_37 : decode cX1_choose 37 = .ok (.istore 4, 2) := by decide +kernel
theorem dX1_choose_39 : decode cX1_choose 39 = .ok (.iconst 1, 1) := by decide +kernel
theorem dX1_choose_40 : decode cX1_choose 40 = .ok (.istore 5, 2) := by decide +kernel
theorem dX1_choose_42 : decode cX1_choose 42 = .ok (.iload 5, 2) := by decide +kernel
theorem dX1_choose_44 : decode cX1_choose 44 = .ok (.iload 4, 2) := by decide +kernel
theorem dX1_choose_46 : decode cX1_choose 46 = .ok (.if_icmp .gt 93, 3) := by decide +kernel
theorem dX1_choose_49 : decode cX1_choose 49 = .ok (.aload_n 1, 1) := by decide +kernel
theorem dX1_choose_50 : decode cX1_choose 50 = .ok (.iload_n 2, 1) := by decide +kernel
theorem dX1_choose_51 : decode cX1_choose 51 = .ok (.iload 5, 2) := by decide +kernel
theorem dX1_choose_53 : decode cX1_choose 53 = .ok (.invokevirtual 79, 3) := by decide +kernel
theorem dX1_choose_56 : decode cX1_choose 56 = .ok (.aload_n 0, 1) := by decide +kernel
theorem dX1_choose_57 : decode cX1_choose 57 = .ok (.getfield 9, 3) := by decide +kernel
theorem dX1_choose_60 : decode cX1_choose 60 = .ok (.iload_n 2, 1) := by decide +kernel
theorem dX1_choose_61 : decode cX1_choose 61 = .ok (.iload 5, 2) := by decide +kernel
theorem dX1_choose_63 : decode cX1_choose 63 = .ok (.iadd, 1) := by decide +kernel
theorem dX1_choose_64 : decode cX1_choose 64 = .ok (.invokestatic 50, 3) := by decide +kernel
theorem dX1_choose_67 : decode cX1_choose 67 = .ok (.iadd, 1) := by decide +kernel
theorem dX1_choose_68 : decode cX1_choose 68 = .ok (.istore 6, 2) := by decide +kernel
theorem dX1_choose_70 : decode cX1_choose 70 = .ok (.iload_n 3, 1) := by decide +kernel
theorem dX1_choose_71 : decode cX1_choose 71 = .ok (.aload_n 0, 1) := by decide +kernel
theorem dX1_choose_72 : decode cX1_choose 72 = .ok (.getfield 15, 3) := by decide +kernel
theorem dX1_choose_75 : decode cX1_choose 75 = .ok (.iload_n 2, 1) := by decide +kernel
theorem dX1_choose_76 : decode cX1_choose 76 = .ok (.iload 5, 2) := by decide +kernel
theorem dX1_choose_78 : decode cX1_choose 78 = .ok (.iadd, 1) := by decide +kernel
theorem dX1_choose_79 : decode cX1_choose 79 = .ok (.invokestatic 50, 3) := by decide +kernel
theorem dX1_choose_82 : decode cX1_choose 82 = .ok (.iadd, 1) := by decide +kernel
theorem dX1_choose_83 : decode cX1_choose 83 = .ok (.istore 7, 2) := by decide +kernel
theorem dX1_choose_85 : decode cX1_choose 85 = .ok (.iload 5, 2) := by decide +kernel
theorem dX1_choose_87 : decode cX1_choose 87 = .ok (.iconst 1, 1) := by decide +kernel
theorem dX1_choose_88 : decode cX1_choose 88 = .ok (.if_icmp .eq 15, 3) := by decide +kernel
theorem dX1_choose_91 : decode cX1_choose 91 = .ok (.aload_n 0, 1) := by decide +kernel
theorem dX1_choose_92 : decode cX1_choose 92 = .ok (.iload 6, 2) := by decide +kernel
theorem dX1_choose_94 : decode cX1_choose 94 = .ok (.iload 7, 2) := by decide +kernel
theorem dX1_choose_96 : decode cX1_choose 96 = .ok (.iload_n 2, 1) := by decide +kernel
theorem dX1_choose_97 : decode cX1_choose 97 = .ok (.invokevirtual 82, 3) := by decide +kernel
theorem dX1_choose_100 : decode cX1_choose 100 = .ok (.ifCond .eq 33, 3) := by decide +kernel
theorem dX1_choose_103 : decode cX1_choose 103 = .ok (.aload_n 0, 1) := by decide +kernel
theorem dX1_choose_104 : decode cX1_choose 104 = .ok (.getfield 9, 3) := by decide +kernel
theorem dX1_choose_107 : decode cX1_choose 107 = .ok (.iload_n 2, 1) := by decide +kernel
theorem dX1_choose_108 : decode cX1_choose 108 = .ok (.iload 6, 2) := by decide +kernel
theorem dX1_choose_110 : decode cX1_choose 110 = .ok (.invokestatic 42, 3) := by decide +kernel
theorem dX1_choose_113 : decode cX1_choose 113 = .ok (.aload_n 0, 1) := by decide +kernel
theorem dX1_choose_114 : decode cX1_choose 114 = .ok (.getfield 15, 3) := by decide +kernel
theorem dX1_choose_117 : decode cX1_choose 117 = .ok (.iload_n 2, 1) := by decide +kernel
theorem dX1_choose_118 : decode cX1_choose 118 = .ok (.iload 7, 2) := by decide +kernel
theorem dX1_choose_120 : decode cX1_choose 120 = .ok (.invokestatic 42, 3) := by decide +kernel
theorem dX1_choose_123 : decode cX1_choose 123 = .ok (.aload_n 0, 1) := by decide +kernel
theorem dX1_choose_124 : decode cX1_choose 124 = .ok (.getfield 18, 3) := by decide +kernel
theorem dX1_choose_127 : decode cX1_choose 127 = .ok (.iload_n 2, 1) := by decide +kernel
theorem dX1_choose_128 : decode cX1_choose 128 = .ok (.iload 5, 2) := by decide +kernel
theorem dX1_choose_130 : decode cX1_choose 130 = .ok (.invokestatic 42, 3) := by decide +kernel
theorem dX1_choose_133 : decode cX1_choose 133 = .ok (.iinc 5 1, 3) := by decide +kernel
theorem dX1_choose_136 : decode cX1_choose 136 = .ok (.goto (-94), 3) := by decide +kernel
theorem dX1_choose_139 : decode cX1_choose 139 = .ok (.return_, 1) := by decide +kernel
theorem dX1_isLess_0 : decode cX1_isLess 0 = .ok (.aload_n 0, 1) := by decide +kernel
theorem dX1_isLess_1 : decode cX1_isLess 1 = .ok (.getfield 9, 3) := by decide +kernel
theorem dX1_isLess_4 : decode cX1_isLess 4 = .ok (.iload_n 3, 1) := by decide +kernel
theorem dX1_isLess_5 : decode cX1_isLess 5 = .ok (.invokestatic 50, 3) := by decide +kernel
theorem dX1_isLess_8 : decode cX1_isLess 8 = .ok (.istore 4, 2) := by decide +kernel
theorem dX1_isLess_10 : decode cX1_isLess 10 = .ok (.iload_n 1, 1) := by decide +kernel
theorem dX1_isLess_11 : decode cX1_isLess 11 = .ok (.iload 4, 2) := by decide +kernel
theorem dX1_isLess_13 : decode cX1_isLess 13 = .ok (.if_icmp .lt 21, 3) := by decide +kernel
theorem dX1_isLess_16 : decode cX1_isLess 16 = .ok (.iload_n 1, 1) := by decide +kernel
theorem dX1_isLess_17 : decode cX1_isLess 17 = .ok (.iload 4, 2) := by decide +kernel
theorem dX1_isLess_19 : decode cX1_isLess 19 = .ok (.if_icmp .ne 19, 3) := by decide +kernel
theorem dX1_isLess_22 : decode cX1_isLess 22 = .ok (.iload_n 2, 1) := by decide +kernel
theorem dX1_isLess_23 : decode cX1_isLess 23 = .ok (.aload_n 0, 1) := by decide +kernel
theorem dX1_isLess_24 : decode cX1_isLess 24 = .ok (.getfield 15, 3) := by decide +kernel
theorem dX1_isLess_27 : decode cX1_isLess 27 = .ok (.iload_n 3, 1) := by decide +kernel
theorem dX1_isLess_28 : decode cX1_isLess 28 = .ok (.invokestatic 50, 3) := by decide +kernel
theorem dX1_isLess_31 : decode cX1_isLess 31 = .ok (.if_icmp .ge 7, 3) := by decide +kernel
theorem dX1_isLess_34 : decode cX1_isLess 34 = .ok (.iconst 1, 1) := by decide +kernel
theorem dX1_isLess_35 : decode cX1_isLess 35 = .ok (.goto 4, 3) := by decide +kernel
theorem dX1_isLess_38 : decode cX1_isLess 38 = .ok (.iconst 0, 1) := by decide +kernel
theorem dX1_isLess_39 : decode cX1_isLess 39 = .ok (.ireturn, 1) := by decide +kernel
theorem dX1_breadthOf_0 : decode cX1_breadthOf 0 = .ok (.aload_n 0, 1) := by decide +kernel
theorem dX1_breadthOf_1 : decode cX1_breadthOf 1 = .ok (.getfield 31, 3) := by decide +kernel
theorem dX1_breadthOf_4 : decode cX1_breadthOf 4 = .ok (.istore_n 2, 1) := by decide +kernel
theorem dX1_breadthOf_5 : decode cX1_breadthOf 5 = .ok (.iconst 0, 1) := by decide +kernel
theorem dX1_breadthOf_6 : decode cX1_breadthOf 6 = .ok (.istore_n 3, 1) := by decide +kernel
theorem dX1_breadthOf_7 : decode cX1_breadthOf 7 = .ok (.iload_n 3, 1) := by decide +kernel
theorem dX1_breadthOf_8 : decode cX1_breadthOf 8 = .ok (.bipush 12, 2) := by decide +kernel
theorem dX1_breadthOf_10 : decode cX1_breadthOf 10 = .ok (.if_icmp .ge 40, 3) := by decide +kernel
theorem dX1_breadthOf_13 : decode cX1_breadthOf 13 = .ok (.iload_n 2, 1) := by decide +kernel
theorem dX1_breadthOf_14 : decode cX1_breadthOf 14 = .ok (.aload_n 0, 1) := by decide +kernel
theorem dX1_breadthOf_15 : decode cX1_breadthOf 15 = .ok (.getfield 39, 3) := by decide +kernel
theorem dX1_breadthOf_18 : decode cX1_breadthOf 18 = .ok (.if_icmp .ge 32, 3) := by decide +kernel
theorem dX1_breadthOf_21 : decode cX1_breadthOf 21 = .ok (.aload_n 0, 1) := by decide +kernel
theorem dX1_breadthOf_22 : decode cX1_breadthOf 22 = .ok (.getfield 18, 3) := by decide +kernel
theorem dX1_breadthOf_25 : decode cX1_breadthOf 25 = .ok (.iload_n 2, 1) := by decide +kernel
theorem dX1_breadthOf_26 : decode cX1_breadthOf 26 = .ok (.invokestatic 50, 3) := by decide +kernel
theorem dX1_breadthOf_29 : decode cX1_breadthOf 29 = .ok (.istore 4, 2) := by decide +kernel
theorem dX1_breadthOf_31 : decode cX1_breadthOf 31 = .ok (.iload_n 3, 1) := by decide +kernel
theorem dX1_breadthOf_32 : decode cX1_breadthOf 32 = .ok (.iload_n 1, 1) := by decide +kernel
theorem dX1_breadthOf_33 : decode cX1_breadthOf 33 = .ok (.if_icmp .ne 6, 3) := by decide +kernel
theorem dX1_breadthOf_36 : decode cX1_breadthOf 36 = .ok (.iload 4, 2) := by decide +kernel
theorem dX1_breadthOf_38 : decode cX1_breadthOf 38 = .ok (.ireturn, 1) := by decide +kernel
theorem dX1_breadthOf_39 : decode cX1_breadthOf 39 = .ok (.iload_n 2, 1) := by decide +kernel
theorem dX1_breadthOf_40 : decode cX1_breadthOf 40 = .ok (.iload 4, 2) := by decide +kernel
theorem dX1_breadthOf_42 : decode cX1_breadthOf 42 = .ok (.iadd, 1) := by decide +kernel
theorem dX1_breadthOf_43 : decode cX1_breadthOf 43 = .ok (.istore_n 2, 1) := by decide +kernel
theorem dX1_breadthOf_44 : decode cX1_breadthOf 44 = .ok (.iinc 3 1, 3) := by decide +kernel
theorem dX1_breadthOf_47 : decode cX1_breadthOf 47 = .ok (.goto (-40), 3) := by decide +kernel
theorem dX1_breadthOf_50 : decode cX1_breadthOf 50 = .ok (.bipush (-4), 2) := by decide +kernel
theorem dX1_breadthOf_52 : decode cX1_breadthOf 52 = .ok (.ireturn, 1) := by decide +kernel
theorem dX2_init_0 : decode cX2_init 0 = .ok (.aload_n 0, 1) := by decide +kernel
theorem dX2_init_1 : decode cX2_init 1 = .ok (.invokespecial 3, 3) := by decide +kernel
theorem dX2_init_4 : decode cX2_init 4 = .ok (.aload_n 0, 1) := by decide +kernel
theorem dX2_init_5 : decode cX2_init 5 = .ok (.bipush (-4), 2) := by decide +kernel
theorem dX2_init_7 : decode cX2_init 7 = .ok (.putfield 9, 3) := by decide +kernel
theorem dX2_init_10 : decode cX2_init 10 = .ok (.return_, 1) := by decide +kernel
theorem dX2_make_0 : decode cX2_make 0 = .ok (.aload_n 0, 1) := by decide +kernel
theorem dX2_make_1 : decode cX2_make 1 = .ok (.iconst 0, 1) := by decide +kernel
theorem dX2_make_2 : decode cX2_make 2 = .ok (.putfield 15, 3) := by decide +kernel
theorem dX2_make_5 : decode cX2_make 5 = .ok (.iconst 0, 1) := by decide +kernel
theorem dX2_make_6 : decode cX2_make 6 = .ok (.istore 4, 2) := by decide +kernel
theorem dX2_make_8 : decode cX2_make 8 = .ok (.iload 4, 2) := by decide +kernel
theorem dX2_make_10 : decode cX2_make 10 = .ok (.iconst 4, 1) := by decide +kernel
theorem dX2_make_11 : decode cX2_make 11 = .ok (.if_icmp .ge 32, 3) := by decide +kernel
theorem dX2_make_14 : decode cX2_make 14 = .ok (.aload_n 0, 1) := by decide +kernel
theorem dX2_make_15 : decode cX2_make 15 = .ok (.dup, 1) := by decide +kernel
theorem dX2_make_16 : decode cX2_make 16 = .ok (.getfield 15, 3) := by decide +kernel
theorem dX2_make_19 : decode cX2_make 19 = .ok (.aload_n 2, 1) := by decide +kernel
theorem dX2_make_20 : decode cX2_make 20 = .ok (.iload 4, 2) := by decide +kernel
theorem dX2_make_22 : decode cX2_make 22 = .ok (.invokevirtual 18, 3) := by decide +kernel
theorem dX2_make_25 : decode cX2_make 25 = .ok (.ifCond .eq 7, 3) := by decide +kernel
theorem dX2_make_28 : decode cX2_make 28 = .ok (.iconst 1, 1) := by decide +kernel
theorem dX2_make_29 : decode cX2_make 29 = .ok (.goto 4, 3) := by decide +kernel
theorem dX2_make_32 : decode cX2_make 32 = .ok (.iconst 0, 1) := by decide +kernel
theorem dX2_make_33 : decode cX2_make 33 = .ok (.iadd, 1) := by decide +kernel
theorem dX2_make_34 : decode cX2_make 34 = .ok (.putfield 15, 3) := by decide +kernel
theorem dX2_make_37 : decode cX2_make 37 = .ok (.iinc 4 1, 3) := by decide +kernel
theorem dX2_make_40 : decode cX2_make 40 = .ok (.goto (-32), 3) := by decide +kernel
theorem dX2_make_43 : decode cX2_make 43 = .ok (.aload_n 0, 1) := by decide +kernel
theorem dX2_make_44 : decode cX2_make 44 = .ok (.bipush (-4), 2) := by decide +kernel
theorem dX2_make_46 : decode cX2_make 46 = .ok (.putfield 9, 3) := by decide +kernel
theorem dX2_make_49 : decode cX2_make 49 = .ok (.iconst 0, 1) := by decide +kernel
theorem dX2_make_50 : decode cX2_make 50 = .ok (.istore 4, 2) := by decide +kernel
theorem dX2_make_52 : decode cX2_make 52 = .ok (.iload 4, 2) := by decide +kernel
theorem dX2_make_54 : decode cX2_make 54 = .ok (.iconst 1, 1) := by decide +kernel
theorem dX2_make_55 : decode cX2_make 55 = .ok (.iconst 2, 1) := by decide +kernel
theorem dX2_make_56 : decode cX2_make 56 = .ok (.aload_n 0, 1) := by decide +kernel
theorem dX2_make_57 : decode cX2_make 57 = .ok (.getfield 15, 3) := by decide +kernel
theorem dX2_make_60 : decode cX2_make 60 = .ok (.imul, 1) := by decide +kernel
theorem dX2_make_61 : decode cX2_make 61 = .ok (.ishl, 1) := by decide +kernel
theorem dX2_make_62 : decode cX2_make 62 = .ok (.if_icmp .ge 72, 3) := by decide +kernel
theorem dX2_make_65 : decode cX2_make 65 = .ok (.aload_n 0, 1) := by decide +kernel
theorem dX2_make_66 : decode cX2_make 66 = .ok (.aload_n 2, 1) := by decide +kernel
theorem dX2_make_67 : decode cX2_make 67 = .ok (.iload 4, 2) := by decide +kernel
theorem dX2_make_69 : decode cX2_make 69 = .ok (.invokevirtual 24, 3) := by decide +kernel
theorem dX2_make_72 : decode cX2_make 72 = .ok (.ifCond .eq 15, 3) := by decide +kernel
theorem dX2_make_75 : decode cX2_make 75 = .ok (.aload_n 0, 1) := by decide +kernel
theorem dX2_make_76 : decode cX2_make 76 = .ok (.aload_n 1, 1) := by decide +kernel
theorem dX2_make_77 : decode cX2_make 77 = .ok (.aload_n 2, 1) := by decide +kernel
theorem dX2_make_78 : decode cX2_make 78 = .ok (.aload_n 3, 1) := by decide +kernel
theorem dX2_make_79 : decode cX2_make 79 = .ok (.iload 4, 2) := by decide +kernel
theorem dX2_make_81 : decode cX2_make 81 = .ok (.invokevirtual 28, 3) := by decide +kernel
theorem dX2_make_84 : decode cX2_make 84 = .ok (.goto 5, 3) := by decide +kernel
theorem dX2_make_87 : decode cX2_make 87 = .ok (.bipush (-4), 2) := by decide +kernel
theorem dX2_make_89 : decode cX2_make 89 = .ok (.istore 5, 2) := by decide +kernel
theorem dX2_make_91 : decode cX2_make 91 = .ok (.iload 5, 2) := by decide +kernel
theorem dX2_make_93 : decode cX2_make 93 = .ok (.bipush (-4), 2) := by decide +kernel
theorem dX2_make_95 : decode cX2_make 95 = .ok (.if_icmp .eq 33, 3) := by decide +kernel
theorem dX2_make_98 : decode cX2_make 98 = .ok (.aload_n 0, 1) := by decide +kernel
theorem dX2_make_99 : decode cX2_make 99 = .ok (.getfield 9, 3) := by decide +kernel
theorem dX2_make_102 : decode cX2_make 102 = .ok (.bipush (-4), 2) := by decide +kernel
theorem dX2_make_104 : decode cX2_make 104 = .ok (.if_icmp .eq 12, 3) := by decide +kernel
theorem dX2_make_107 : decode cX2_make 107 = .ok (.iload 5, 2) := by decide +kernel
theorem dX2_make_109 : decode cX2_make 109 = .ok (.aload_n 0, 1) := by decide +kernel
theorem dX2_make_110 : decode cX2_make 110 = .ok (.getfield 9, 3) := by decide +kernel
theorem dX2_make_113 : decode cX2_make 113 = .ok (.if_icmp .ge 15, 3) := by decide +kernel
theorem dX2_make_116 : decode cX2_make 116 = .ok (.aload_n 0, 1) := by decide +kernel
theorem dX2_make_117 : decode cX2_make 117 = .ok (.iload 5, 2) := by decide +kernel
theorem dX2_make_119 : decode cX2_make 119 = .ok (.putfield 9, 3) := by decide +kernel
theorem dX2_make_122 : decode cX2_make 122 = .ok (.aload_n 0, 1) := by decide +kernel
theorem dX2_make_123 : decode cX2_make 123 = .ok (.iload 4, 2) := by decide +kernel
theorem dX2_make_125 : decode cX2_make 125 = .ok (.putfield 32, 3) := by decide +kernel
theorem dX2_make_128 : decode cX2_make 128 = .ok (.iinc 4 1, 3) := by decide +kernel
theorem dX2_make_131 : decode cX2_make 131 = .ok (.goto (-79), 3) := by decide +kernel
theorem dX2_make_134 : decode cX2_make 134 = .ok (.return_, 1) := by decide +kernel
theorem dX2_wallIn_0 : decode cX2_wallIn 0 = .ok (.iload_n 1, 1) := by decide +kernel
theorem dX2_wallIn_1 : decode cX2_wallIn 1 = .ok (.iconst 2, 1) := by decide +kernel
theorem dX2_wallIn_2 : decode cX2_wallIn 2 = .ok (.aload_n 0, 1) := by decide +kernel
theorem dX2_wallIn_3 : decode cX2_wallIn 3 = .ok (.getfield 15, 3) := by decide +kernel
theorem dX2_wallIn_6 : decode cX2_wallIn 6 = .ok (.iconst 1, 1) := by decide +kernel
theorem dX2_wallIn_7 : decode cX2_wallIn 7 = .ok (.isub, 1) := by decide +kernel
theorem dX2_wallIn_8 : decode cX2_wallIn 8 = .ok (.iload_n 2, 1) := by decide +kernel
theorem dX2_wallIn_9 : decode cX2_wallIn 9 = .ok (.isub, 1) := by decide +kernel
theorem dX2_wallIn_10 : decode cX2_wallIn 10 = .ok (.imul, 1) := by decide +kernel
theorem dX2_wallIn_11 : decode cX2_wallIn 11 = .ok (.ishr, 1) := by decide +kernel
theorem dX2_wallIn_12 : decode cX2_wallIn 12 = .ok (.iconst 3, 1) := by decide +kernel
theorem dX2_wallIn_13 : decode cX2_wallIn 13 = .ok (.iand, 1) := by decide +kernel
theorem dX2_wallIn_14 : decode cX2_wallIn 14 = .ok (.ireturn, 1) := by decide +kernel
theorem dX2_isOrder_0 : decode cX2_isOrder 0 = .ok (.iconst 0, 1) := by decide +kernel
theorem dX2_isOrder_1 : decode cX2_isOrder 1 = .ok (.istore_n 3, 1) := by decide +kernel
theorem dX2_isOrder_2 : decode cX2_isOrder 2 = .ok (.iconst 0, 1) := by decide +kernel
theorem dX2_isOrder_3 : decode cX2_isOrder 3 = .ok (.istore 4, 2) := by decide +kernel
theorem dX2_isOrder_5 : decode cX2_isOrder 5 = .ok (.iload 4, 2) := by decide +kernel
theorem dX2_isOrder_7 : decode cX2_isOrder 7 = .ok (.aload_n 0, 1) := by decide +kernel
theorem dX2_isOrder_8 : decode cX2_isOrder 8 = .ok (.getfield 15, 3) := by decide +kernel
theorem dX2_isOrder_11 : decode cX2_isOrder 11 = .ok (.if_icmp .ge 46, 3) := by decide +kernel
theorem dX2_isOrder_14 : decode cX2_isOrder 14 = .ok (.aload_n 0, 1) := by decide +kernel
theorem dX2_isOrder_15 : decode cX2_isOrder 15 = .ok (.iload_n 2, 1) := by decide +kernel
theorem dX2_isOrder_16 : decode cX2_isOrder 16 = .ok (.iload 4, 2) := by decide +kernel
theorem dX2_isOrder_18 : decode cX2_isOrder 18 = .ok (.invokevirtual 35, 3) := by decide +kernel
theorem dX2_isOrder_21 : decode cX2_isOrder 21 = .ok (.istore 5, 2) := by decide +kernel
theorem dX2_isOrder_23 : decode cX2_isOrder 23 = .ok (.aload_n 1, 1) := by decide +kernel
theorem dX2_isOrder_24 : decode cX2_isOrder 24 = .ok (.iload 5, 2) := by decide +kernel
theorem dX2_isOrder_26 : decode cX2_isOrder 26 = .ok (.invokevirtual 18, 3) := by decide +kernel
theorem dX2_isOrder_29 : decode cX2_isOrder 29 = .ok (.ifCond .eq 13, 3) := by decide +kernel
theorem dX2_isOrder_32 : decode cX2_isOrder 32 = .ok (.iload_n 3, 1) := by decide +kernel
theorem dX2_isOrder_33 : decode cX2_isOrder 33 = .ok (.iload 5, 2) := by decide +kernel
theorem dX2_isOrder_35 : decode cX2_isOrder 35 = .ok (.ishr, 1) := by decide +kernel
theorem dX2_isOrder_36 : decode cX2_isOrder 36 = .ok (.iconst 1, 1) := by decide +kernel
theorem dX2_isOrder_37 : decode cX2_isOrder 37 = .ok (.iand, 1) := by decide +kernel
theorem dX2_isOrder_38 : decode cX2_isOrder 38 = .ok (.iconst 1, 1) := by decide +kernel
theorem dX2_isOrder_39 : decode cX2_isOrder 39 = .ok (.if_icmp .ne 5, 3) := by decide +kernel
theorem dX2_isOrder_42 : decode cX2_isOrder 42 = .ok (.iconst 0, 1) := by decide +kernel
theorem dX2_isOrder_43 : decode cX2_isOrder 43 = .ok (.ireturn, 1) := by decide +kernel
theorem dX2_isOrder_44 : decode cX2_isOrder 44 = .ok (.iload_n 3, 1) := by decide +kernel
theorem dX2_isOrder_45 : decode cX2_isOrder 45 = .ok (.iconst 1, 1) := by decide +kernel
theorem dX2_isOrder_46 : decode cX2_isOrder 46 = .ok (.iload 5, 2) := by decide +kernel
theorem dX2_isOrder_48 : decode cX2_isOrder 48 = .ok (.ishl, 1) := by decide +kernel
theorem dX2_isOrder_49 : decode cX2_isOrder 49 = .ok (.ior, 1) := by decide +kernel
theorem dX2_isOrder_50 : decode cX2_isOrder 50 = .ok (.istore_n 3, 1) := by decide +kernel
theorem dX2_isOrder_51 : decode cX2_isOrder 51 = .ok (.iinc 4 1, 3) := by decide +kernel
theorem dX2_isOrder_54 : decode cX2_isOrder 54 = .ok (.goto (-49), 3) := by decide +kernel
theorem dX2_isOrder_57 : decode cX2_isOrder 57 = .ok (.iconst 1, 1) := by decide +kernel
theorem dX2_isOrder_58 : decode cX2_isOrder 58 = .ok (.ireturn, 1) := by decide +kernel
theorem dX2_kicksOf_0 : decode cX2_kicksOf 0 = .ok (.aload_n 3, 1) := by decide +kernel
theorem dX2_kicksOf_1 : decode cX2_kicksOf 1 = .ok (.aload_n 2, 1) := by decide +kernel
theorem dX2_kicksOf_2 : decode cX2_kicksOf 2 = .ok (.invokevirtual 39, 3) := by decide +kernel
theorem dX2_kicksOf_5 : decode cX2_kicksOf 5 = .ok (.iconst 0, 1) := by decide +kernel
theorem dX2_kicksOf_6 : decode cX2_kicksOf 6 = .ok (.istore 5, 2) := by decide +kernel
theorem dX2_kicksOf_8 : decode cX2_kicksOf 8 = .ok (.iconst 0, 1) := by decide +kernel
theorem dX2_kicksOf_9 : decode cX2_kicksOf 9 = .ok (.istore 6, 2) := by decide +kernel
theorem dX2_kicksOf_11 : decode cX2_kicksOf 11 = .ok (.iload 6, 2) := by decide +kernel
theorem dX2_kicksOf_13 : decode cX2_kicksOf 13 = .ok (.aload_n 0, 1) := by decide +kernel
theorem dX2_kicksOf_14 : decode cX2_kicksOf 14 = .ok (.getfield 15, 3) := by decide +kernel
theorem dX2_kicksOf_17 : decode cX2_kicksOf 17 = .ok (.if_icmp .ge 71, 3) := by decide +kernel
theorem dX2_kicksOf_20 : decode cX2_kicksOf 20 = .ok (.aload_n 0, 1) := by decide +kernel
theorem dX2_kicksOf_21 : decode cX2_kicksOf 21 = .ok (.iload 4, 2) := by decide +kernel
theorem dX2_kicksOf_23 : decode cX2_kicksOf 23 = .ok (.iload 6, 2) := by decide +kernel
theorem dX2_kicksOf_25 : decode cX2_kicksOf 25 = .ok (.invokevirtual 35, 3) := by decide +kernel
theorem dX2_kicksOf_28 : decode cX2_kicksOf 28 = .ok (.istore 7, 2) := by decide +kernel
theorem dX2_kicksOf_30 : decode cX2_kicksOf 30 = .ok (.aload_n 3, 1) := by decide +kernel
theorem dX2_kicksOf_31 : decode cX2_kicksOf 31 = .ok (.getfield 43, 3) := by decide +kernel
theorem dX2_kicksOf_34 : decode cX2_kicksOf 34 = .ok (.ifCond .ne 7, 3) := by decide +kernel
theorem dX2_kicksOf_37 : decode cX2_kicksOf 37 = .ok (.iconst 2, 1) := by decide +kernel
theorem dX2_kicksOf_38 : decode cX2_kicksOf 38 = .ok (.goto 4, 3) := by decide +kernel
theorem dX2_kicksOf_41 : decode cX2_kicksOf 41 = .ok (.iconst 4, 1) := by decide +kernel
theorem dX2_kicksOf_42 : decode cX2_kicksOf 42 = .ok (.istore 8, 2) := by decide +kernel
theorem dX2_kicksOf_44 : decode cX2_kicksOf 44 = .ok (.aload_n 3, 1) := by decide +kernel
theorem dX2_kicksOf_45 : decode cX2_kicksOf 45 = .ok (.aload_n 1, 1) := by decide +kernel
theorem dX2_kicksOf_46 : decode cX2_kicksOf 46 = .ok (.iload 7, 2) := by decide +kernel
theorem dX2_kicksOf_48 : decode cX2_kicksOf 48 = .ok (.iload 8, 2) := by decide +kernel
theorem dX2_kicksOf_50 : decode cX2_kicksOf 50 = .ok (.invokevirtual 46, 3) := by decide +kernel
theorem dX2_kicksOf_53 : decode cX2_kicksOf 53 = .ok (.istore 9, 2) := by decide +kernel
theorem dX2_kicksOf_55 : decode cX2_kicksOf 55 = .ok (.iload 9, 2) := by decide +kernel
theorem dX2_kicksOf_57 : decode cX2_kicksOf 57 = .ok (.bipush (-4), 2) := by decide +kernel
theorem dX2_kicksOf_59 : decode cX2_kicksOf 59 = .ok (.if_icmp .ne 6, 3) := by decide +kernel
theorem dX2_kicksOf_62 : decode cX2_kicksOf 62 = .ok (.bipush (-4), 2) := by decide +kernel
theorem dX2_kicksOf_64 : decode cX2_kicksOf 64 = .ok (.ireturn, 1) := by decide +kernel
theorem dX2_kicksOf_65 : decode cX2_kicksOf 65 = .ok (.aload_n 3, 1) := by decide +kernel
theorem dX2_kicksOf_66 : decode cX2_kicksOf 66 = .ok (.aload_n 1, 1) := by decide +kernel
theorem dX2_kicksOf_67 : decode cX2_kicksOf 67 = .ok (.iload 7, 2) := by decide +kernel
theorem dX2_kicksOf_69 : decode cX2_kicksOf 69 = .ok (.iload 9, 2) := by decide +kernel
theorem dX2_kicksOf_71 : decode cX2_kicksOf 71 = .ok (.invokevirtual 50, 3) := by decide +kernel
theorem dX2_kicksOf_74 : decode cX2_kicksOf 74 = .ok (.pop, 1) := by decide +kernel
theorem dX2_kicksOf_75 : decode cX2_kicksOf 75 = .ok (.iload 5, 2) := by decide +kernel
theorem dX2_kicksOf_77 : decode cX2_kicksOf 77 = .ok (.iload 9, 2) := by decide +kernel
theorem dX2_kicksOf_79 : decode cX2_kicksOf 79 = .ok (.iadd, 1) := by decide +kernel
theorem dX2_kicksOf_80 : decode cX2_kicksOf 80 = .ok (.istore 5, 2) := by decide +kernel
theorem dX2_kicksOf_82 : decode cX2_kicksOf 82 = .ok (.iinc 6 1, 3) := by decide +kernel
theorem dX2_kicksOf_85 : decode cX2_kicksOf 85 = .ok (.goto (-74), 3) := by decide +kernel
theorem dX2_kicksOf_88 : decode cX2_kicksOf 88 = .ok (.iload 5, 2) := by decide +kernel
theorem dX2_kicksOf_90 : decode cX2_kicksOf 90 = .ok (.ireturn, 1) := by decide +kernel
theorem dX2_wallAt_0 : decode cX2_wallAt 0 = .ok (.aload_n 0, 1) := by decide +kernel
theorem dX2_wallAt_1 : decode cX2_wallAt 1 = .ok (.getfield 9, 3) := by decide +kernel
theorem dX2_wallAt_4 : decode cX2_wallAt 4 = .ok (.bipush (-4), 2) := by decide +kernel
theorem dX2_wallAt_6 : decode cX2_wallAt 6 = .ok (.if_icmp .eq 23, 3) := by decide +kernel
theorem dX2_wallAt_9 : decode cX2_wallAt 9 = .ok (.iload_n 1, 1) := by decide +kernel
theorem dX2_wallAt_10 : decode cX2_wallAt 10 = .ok (.aload_n 0, 1) := by decide +kernel
theorem dX2_wallAt_11 : decode cX2_wallAt 11 = .ok (.getfield 15, 3) := by decide +kernel
theorem dX2_wallAt_14 : decode cX2_wallAt 14 = .ok (.if_icmp .ge 15, 3) := by decide +kernel
theorem dX2_wallAt_17 : decode cX2_wallAt 17 = .ok (.aload_n 0, 1) := by decide +kernel
theorem dX2_wallAt_18 : decode cX2_wallAt 18 = .ok (.aload_n 0, 1) := by decide +kernel
theorem dX2_wallAt_19 : decode cX2_wallAt 19 = .ok (.getfield 32, 3) := by decide +kernel
theorem dX2_wallAt_22 : decode cX2_wallAt 22 = .ok (.iload_n 1, 1) := by decide +kernel
theorem dX2_wallAt_23 : decode cX2_wallAt 23 = .ok (.invokevirtual 35, 3) := by decide +kernel
theorem dX2_wallAt_26 : decode cX2_wallAt 26 = .ok (.goto 5, 3) := by decide +kernel
theorem dX2_wallAt_29 : decode cX2_wallAt 29 = .ok (.bipush (-4), 2) := by decide +kernel
theorem dX2_wallAt_31 : decode cX2_wallAt 31 = .ok (.ireturn, 1) := by decide +kernel
theorem dX3_init_0 : decode cX3_init 0 = .ok (.aload_n 0, 1) := by decide +kernel
theorem dX3_init_1 : decode cX3_init 1 = .ok (.invokespecial 3, 3) := by decide +kernel
theorem dX3_init_4 : decode cX3_init 4 = .ok (.aload_n 0, 1) := by decide +kernel
theorem dX3_init_5 : decode cX3_init 5 = .ok (.bipush 12, 2) := by decide +kernel
theorem dX3_init_7 : decode cX3_init 7 = .ok (.newarray .int, 2) := by decide +kernel
theorem dX3_init_9 : decode cX3_init 9 = .ok (.putfield 9, 3) := by decide +kernel
theorem dX3_init_12 : decode cX3_init 12 = .ok (.aload_n 0, 1) := by decide +kernel
theorem dX3_init_13 : decode cX3_init 13 = .ok (.bipush 12, 2) := by decide +kernel
theorem dX3_init_15 : decode cX3_init 15 = .ok (.newarray .int, 2) := by decide +kernel
theorem dX3_init_17 : decode cX3_init 17 = .ok (.putfield 15, 3) := by decide +kernel
theorem dX3_init_20 : decode cX3_init 20 = .ok (.aload_n 0, 1) := by decide +kernel
theorem dX3_init_21 : decode cX3_init 21 = .ok (.bipush 12, 2) := by decide +kernel
theorem dX3_init_23 : decode cX3_init 23 = .ok (.newarray .int, 2) := by decide +kernel
theorem dX3_init_25 : decode cX3_init 25 = .ok (.putfield 18, 3) := by decide +kernel
theorem dX3_init_28 : decode cX3_init 28 = .ok (.aload_n 0, 1) := by decide +kernel
theorem dX3_init_29 : decode cX3_init 29 = .ok (.bipush 12, 2) := by decide +kernel
theorem dX3_init_31 : decode cX3_init 31 = .ok (.newarray .int, 2) := by decide +kernel
theorem dX3_init_33 : decode cX3_init 33 = .ok (.putfield 21, 3) := by decide +kernel
theorem dX3_init_36 : decode cX3_init 36 = .ok (.aload_n 0, 1) := by decide +kernel
theorem dX3_init_37 : decode cX3_init 37 = .ok (.iconst 3, 1) := by decide +kernel
theorem dX3_init_38 : decode cX3_init 38 = .ok (.newarray .int, 2) := by decide +kernel
theorem dX3_init_40 : decode cX3_init 40 = .ok (.putfield 24, 3) := by decide +kernel
theorem dX3_init_43 : decode cX3_init 43 = .ok (.aload_n 0, 1) := by decide +kernel
theorem dX3_init_44 : decode cX3_init 44 = .ok (.invokevirtual 27, 3) := by decide +kernel
theorem dX3_init_47 : decode cX3_init 47 = .ok (.return_, 1) := by decide +kernel
theorem dX3_clear_0 : decode cX3_clear 0 = .ok (.aload_n 0, 1) := by decide +kernel
theorem dX3_clear_1 : decode cX3_clear 1 = .ok (.iconst 0, 1) := by decide +kernel
theorem dX3_clear_2 : decode cX3_clear 2 = .ok (.putfield 30, 3) := by decide +kernel
theorem dX3_clear_5 : decode cX3_clear 5 = .ok (.aload_n 0, 1) := by decide +kernel
theorem dX3_clear_6 : decode cX3_clear 6 = .ok (.iconst 0, 1) := by decide +kernel
theorem dX3_clear_7 : decode cX3_clear 7 = .ok (.putfield 34, 3) := by decide +kernel
theorem dX3_clear_10 : decode cX3_clear 10 = .ok (.aload_n 0, 1) := by decide +kernel
theorem dX3_clear_11 : decode cX3_clear 11 = .ok (.iconst 3, 1) := by decide +kernel
theorem dX3_clear_12 : decode cX3_clear 12 = .ok (.putfield 37, 3) := by decide +kernel
theorem dX3_clear_15 : decode cX3_clear 15 = .ok (.aload_n 0, 1) := by decide +kernel
theorem dX3_clear_16 : decode cX3_clear 16 = .ok (.bipush 60, 2) := by decide +kernel
theorem dX3_clear_18 : decode cX3_clear 18 = .ok (.putfield 40, 3) := by decide +kernel
theorem dX3_clear_21 : decode cX3_clear 21 = .ok (.aload_n 0, 1) := by decide +kernel
theorem dX3_clear_22 : decode cX3_clear 22 = .ok (.iconst 2, 1) := by decide +kernel
theorem dX3_clear_23 : decode cX3_clear 23 = .ok (.putfield 43, 3) := by decide +kernel
theorem dX3_clear_26 : decode cX3_clear 26 = .ok (.aload_n 0, 1) := by decide +kernel
theorem dX3_clear_27 : decode cX3_clear 27 = .ok (.bipush 12, 2) := by decide +kernel
theorem dX3_clear_29 : decode cX3_clear 29 = .ok (.putfield 46, 3) := by decide +kernel
theorem dX3_clear_32 : decode cX3_clear 32 = .ok (.aload_n 0, 1) := by decide +kernel
theorem dX3_clear_33 : decode cX3_clear 33 = .ok (.iconst 0, 1) := by decide +kernel
theorem dX3_clear_34 : decode cX3_clear 34 = .ok (.putfield 49, 3) := by decide +kernel
theorem dX3_clear_37 : decode cX3_clear 37 = .ok (.aload_n 0, 1) := by decide +kernel
theorem dX3_clear_38 : decode cX3_clear 38 = .ok (.iconst 3, 1) := by decide +kernel
theorem dX3_clear_39 : decode cX3_clear 39 = .ok (.putfield 52, 3) := by decide +kernel
theorem dX3_clear_42 : decode cX3_clear 42 = .ok (.return_, 1) := by decide +kernel
theorem dX3_readText_0 : decode cX3_readText 0 = .ok (.aload_n 0, 1) := by decide +kernel
theorem dX3_readText_1 : decode cX3_readText 1 = .ok (.invokevirtual 27, 3) := by decide +kernel
theorem dX3_readText_4 : decode cX3_readText 4 = .ok (.iconst 0, 1) := by decide +kernel
theorem dX3_readText_5 : decode cX3_readText 5 = .ok (.istore_n 3, 1) := by decide +kernel
theorem dX3_readText_6 : decode cX3_readText 6 = .ok (.iconst 0, 1) := by decide +kernel
theorem dX3_readText_7 : decode cX3_readText 7 = .ok (.istore 4, 2) := by decide +kernel
theorem dX3_readText_9 : decode cX3_readText 9 = .ok (.iload 4, 2) := by decide +kernel
theorem dX3_readText_11 : decode cX3_readText 11 = .ok (.iload_n 2, 1) := by decide +kernel
theorem dX3_readText_12 : decode cX3_readText 12 = .ok (.if_icmp .ge 48, 3) := by decide +kernel
theorem dX3_readText_15 : decode cX3_readText 15 = .ok (.iload_n 3, 1) := by decide +kernel
theorem dX3_readText_16 : decode cX3_readText 16 = .ok (.iload_n 2, 1) := by decide +kernel
theorem dX3_readText_17 : decode cX3_readText 17 = .ok (.if_icmp .ge 43, 3) := by decide +kernel
theorem dX3_readText_20 : decode cX3_readText 20 = .ok (.aload_n 0, 1) := by decide +kernel
theorem dX3_readText_21 : decode cX3_readText 21 = .ok (.aload_n 1, 1) := by decide +kernel
theorem dX3_readText_22 : decode cX3_readText 22 = .ok (.iload_n 2, 1) := by decide +kernel
theorem dX3_readText_23 : decode cX3_readText 23 = .ok (.iload_n 3, 1) := by decide +kernel
theorem dX3_readText_24 : decode cX3_readText 24 = .ok (.invokevirtual 55, 3) := by decide +kernel
theorem dX3_readText_27 : decode cX3_readText 27 = .ok (.istore 5, 2) := by decide +kernel
theorem dX3_readText_29 : decode cX3_readText 29 = .ok (.iload 5, 2) := by decide +kernel
theorem dX3_readText_31 : decode cX3_readText 31 = .ok (.bipush (-4), 2) := by decide +kernel
theorem dX3_readText_33 : decode cX3_readText 33 = .ok (.if_icmp .eq 16, 3) := by decide +kernel
theorem dX3_readText_36 : decode cX3_readText 36 = .ok (.aload_n 0, 1) := by decide +kernel
theorem dX3_readText_37 : decode cX3_readText 37 = .ok (.aload_n 1, 1) := by decide +kernel
theorem dX3_readText_38 : decode cX3_readText 38 = .ok (.iload_n 2, 1) := by decide +kernel
theorem dX3_readText_39 : decode cX3_readText 39 = .ok (.iload_n 3, 1) := by decide +kernel
theorem dX3_readText_40 : decode cX3_readText 40 = .ok (.invokestatic 59, 3) := by decide +kernel
theorem dX3_readText_43 : decode cX3_readText 43 = .ok (.invokevirtual 62, 3) := by decide +kernel
theorem dX3_readText_46 : decode cX3_readText 46 = .ok (.ifCond .ne 5, 3) := by decide +kernel
theorem dX3_readText_49 : decode cX3_readText 49 = .ok (.iload_n 3, 1) := by decide +kernel
theorem dX3_readText_50 : decode cX3_readText 50 = .ok (.ireturn, 1) := by decide +kernel
theorem dX3_readText_51 : decode cX3_readText 51 = .ok (.iload 5, 2) := by decide +kernel
theorem dX3_readText_53 : decode cX3_readText 53 = .ok (.istore_n 3, 1) := by decide +kernel
theorem dX3_readText_54 : decode cX3_readText 54 = .ok (.iinc 4 1, 3) := by decide +kernel
theorem dX3_readText_57 : decode cX3_readText 57 = .ok (.goto (-48), 3) := by decide +kernel
theorem dX3_readText_60 : decode cX3_readText 60 = .ok (.bipush (-4), 2) := by decide +kernel
theorem dX3_readText_62 : decode cX3_readText 62 = .ok (.ireturn, 1) := by decide +kernel
theorem dX3_readNumbers_0 : decode cX3_readNumbers 0 = .ok (.aload_n 1, 1) := by decide +kernel
theorem dX3_readNumbers_1 : decode cX3_readNumbers 1 = .ok (.iload_n 2, 1) := by decide +kernel
theorem dX3_readNumbers_2 : decode cX3_readNumbers 2 = .ok (.iload_n 3, 1) := by decide +kernel
theorem dX3_readNumbers_3 : decode cX3_readNumbers 3 = .ok (.invokestatic 59, 3) := by decide +kernel
theorem dX3_readNumbers_6 : decode cX3_readNumbers 6 = .ok (.invokestatic 66, 3) := by decide +kernel
theorem dX3_readNumbers_9 : decode cX3_readNumbers 9 = .ok (.istore 4, 2) := by decide +kernel
theorem dX3_readNumbers_11 : decode cX3_readNumbers 11 = .ok (.iload 4, 2) := by decide +kernel
theorem dX3_readNumbers_13 : decode cX3_readNumbers 13 = .ok (.ifCond .ne 6, 3) := by decide +kernel
theorem dX3_readNumbers_16 : decode cX3_readNumbers 16 = .ok (.bipush (-4), 2) := by decide +kernel
theorem dX3_readNumbers_18 : decode cX3_readNumbers 18 = .ok (.ireturn, 1) := by decide +kernel
theorem dX3_readNumbers_19 : decode cX3_readNumbers 19 = .ok (.iload_n 3, 1) := by decide +kernel
theorem dX3_readNumbers_20 : decode cX3_readNumbers 20 = .ok (.iconst 1, 1) := by decide +kernel
theorem dX3_readNumbers_21 : decode cX3_readNumbers 21 = .ok (.iadd, 1) := by decide +kernel
theorem dX3_readNumbers_22 : decode cX3_readNumbers 22 = .ok (.istore 5, 2) := by decide +kernel
theorem dX3_readNumbers_24 : decode cX3_readNumbers 24 = .ok (.iconst 0, 1) := by decide +kernel
theorem dX3_readNumbers_25 : decode cX3_readNumbers 25 = .ok (.istore 6, 2) := by decide +kernel
theorem dX3_readNumbers_27 : decode cX3_readNumbers 27 = .ok (.iload 6, 2) := by decide +kernel
theorem dX3_readNumbers_29 : decode cX3_readNumbers 29 = .ok (.iload 4, 2) := by decide +kernel
theorem dX3_readNumbers_31 : decode cX3_readNumbers 31 = .ok (.if_icmp .ge 83, 3) := by decide +kernel
theorem dX3_readNumbers_34 : decode cX3_readNumbers 34 = .ok (.aload_n 1, 1) := by decide +kernel
theorem dX3_readNumbers_35 : decode cX3_readNumbers 35 = .ok (.iload_n 2, 1) := by decide +kernel
theorem dX3_readNumbers_36 : decode cX3_readNumbers 36 = .ok (.iload 5, 2) := by decide +kernel
theorem dX3_readNumbers_38 : decode cX3_readNumbers 38 = .ok (.invokestatic 70, 3) := by decide +kernel
theorem dX3_readNumbers_41 : decode cX3_readNumbers 41 = .ok (.istore 7, 2) := by decide +kernel
theorem dX3_readNumbers_43 : decode cX3_readNumbers 43 = .ok (.iload 7, 2) := by decide +kernel
theorem dX3_readNumbers_45 : decode cX3_readNumbers 45 = .ok (.ifCond .ne 6, 3) := by decide +kernel
theorem dX3_readNumbers_48 : decode cX3_readNumbers 48 = .ok (.bipush (-4), 2) := by decide +kernel
theorem dX3_readNumbers_50 : decode cX3_readNumbers 50 = .ok (.ireturn, 1) := by decide +kernel
theorem dX3_readNumbers_51 : decode cX3_readNumbers 51 = .ok (.aload_n 0, 1) := by decide +kernel
theorem dX3_readNumbers_52 : decode cX3_readNumbers 52 = .ok (.getfield 24, 3) := by decide +kernel
theorem dX3_readNumbers_55 : decode cX3_readNumbers 55 = .ok (.iload 6, 2) := by decide +kernel
theorem dX3_readNumbers_57 : decode cX3_readNumbers 57 = .ok (.aload_n 1, 1) := by decide +kernel
theorem dX3_readNumbers_58 : decode cX3_readNumbers 58 = .ok (.iload_n 2, 1) := by decide +kernel
theorem dX3_readNumbers_59 : decode cX3_readNumbers 59 = .ok (.iload 5, 2) := by decide +kernel
theorem dX3_readNumbers_61 : decode cX3_readNumbers 61 = .ok (.iload 7, 2) := by decide +kernel
theorem dX3_readNumbers_63 : decode cX3_readNumbers 63 = .ok (.invokestatic 73, 3) := by decide +kernel
theorem dX3_readNumbers_66 : decode cX3_readNumbers 66 = .ok (.invokestatic 77, 3) := by decide +kernel
theorem dX3_readNumbers_69 : decode cX3_readNumbers 69 = .ok (.iload 5, 2) := by decide +kernel
theorem dX3_readNumbers_71 : decode cX3_readNumbers 71 = .ok (.iload 7, 2) := by decide +kernel
theorem dX3_readNumbers_73 : decode cX3_readNumbers 73 = .ok (.iadd, 1) := by decide +kernel
theorem dX3_readNumbers_74 : decode cX3_readNumbers 74 = .ok (.istore 5, 2) := by decide +kernel
theorem dX3_readNumbers_76 : decode cX3_readNumbers 76 = .ok (.aload_n 1, 1) := by decide +kernel
theorem dX3_readNumbers_77 : decode cX3_readNumbers 77 = .ok (.iload_n 2, 1) := by decide +kernel
theorem dX3_readNumbers_78 : decode cX3_readNumbers 78 = .ok (.iload 5, 2) := by decide +kernel
theorem dX3_readNumbers_80 : decode cX3_readNumbers 80 = .ok (.invokestatic 59, 3) := by decide +kernel
theorem dX3_readNumbers_83 : decode cX3_readNumbers 83 = .ok (.iload 6, 2) := by decide +kernel
theorem dX3_readNumbers_85 : decode cX3_readNumbers 85 = .ok (.iconst 1, 1) := by decide +kernel
theorem dX3_readNumbers_86 : decode cX3_readNumbers 86 = .ok (.iadd, 1) := by decide +kernel
theorem dX3_readNumbers_87 : decode cX3_readNumbers 87 = .ok (.iload 4, 2) := by decide +kernel
theorem dX3_readNumbers_89 : decode cX3_readNumbers 89 = .ok (.if_icmp .ne 8, 3) := by decide +kernel
theorem dX3_readNumbers_92 : decode cX3_readNumbers 92 = .ok (.bipush 59, 2) := by decide +kernel
theorem dX3_readNumbers_94 : decode cX3_readNumbers 94 = .ok (.goto 5, 3) := by decide +kernel
theorem dX3_readNumbers_97 : decode cX3_readNumbers 97 = .ok (.bipush 44, 2) := by decide +kernel
theorem dX3_readNumbers_99 : decode cX3_readNumbers 99 = .ok (.if_icmp .eq 6, 3) := by decide +kernel
theorem dX3_readNumbers_102 : decode cX3_readNumbers 102 = .ok (.bipush (-4), 2) := by decide +kernel
theorem dX3_readNumbers_104 : decode cX3_readNumbers 104 = .ok (.ireturn, 1) := by decide +kernel
theorem dX3_readNumbers_105 : decode cX3_readNumbers 105 = .ok (.iinc 5 1, 3) := by decide +kernel
theorem dX3_readNumbers_108 : decode cX3_readNumbers 108 = .ok (.iinc 6 1, 3) := by decide +kernel
theorem dX3_readNumbers_111 : decode cX3_readNumbers 111 = .ok (.goto (-84), 3) := by decide +kernel
theorem dX3_readNumbers_114 : decode cX3_readNumbers 114 = .ok (.iload 5, 2) := by decide +kernel
theorem dX3_readNumbers_116 : decode cX3_readNumbers 116 = .ok (.ireturn, 1) := by decide +kernel
theorem dX3_numbersBehind_0 : decode cX3_numbersBehind 0 = .ok (.iload_n 0, 1) := by decide +kernel
theorem dX3_numbersBehind_1 : decode cX3_numbersBehind 1 = .ok (.tableswitch 85 100 115 #[83, 85, 85, 85, 83, 85, 85, 81, 85, 85, 85, 83, 85, 85, 81, 79], 79) := by decide +kernel
theorem dX3_numbersBehind_80 : decode cX3_numbersBehind 80 = .ok (.iconst 3, 1) := by decide +kernel
theorem dX3_numbersBehind_81 : decode cX3_numbersBehind 81 = .ok (.ireturn, 1) := by decide +kernel
theorem dX3_numbersBehind_82 : decode cX3_numbersBehind 82 = .ok (.iconst 2, 1) := by decide +kernel
theorem dX3_numbersBehind_83 : decode cX3_numbersBehind 83 = .ok (.ireturn, 1) := by decide +kernel
theorem dX3_numbersBehind_84 : decode cX3_numbersBehind 84 = .ok (.iconst 1, 1) := by decide +kernel
theorem dX3_numbersBehind_85 : decode cX3_numbersBehind 85 = .ok (.ireturn, 1) := by decide +kernel
theorem dX3_numbersBehind_86 : decode cX3_numbersBehind 86 = .ok (.iconst 0, 1) := by decide +kernel
theorem dX3_numbersBehind_87 : decode cX3_numbersBehind 87 = .ok (.ireturn, 1) := by decide +kernel
theorem dX3_figuresAt_0 : decode cX3_figuresAt 0 = .ok (.aload_n 0, 1) := by decide +kernel
theorem dX3_figuresAt_1 : decode cX3_figuresAt 1 = .ok (.iload_n 1, 1) := by decide +kernel
theorem dX3_figuresAt_2 : decode cX3_figuresAt 2 = .ok (.iload_n 2, 1) := by decide +kernel
theorem dX3_figuresAt_3 : decode cX3_figuresAt 3 = .ok (.invokestatic 59, 3) := by decide +kernel
theorem dX3_figuresAt_6 : decode cX3_figuresAt 6 = .ok (.invokestatic 81, 3) := by decide +kernel
theorem dX3_figuresAt_9 : decode cX3_figuresAt 9 = .ok (.ifCond .ne 5, 3) := by decide +kernel
theorem dX3_figuresAt_12 : decode cX3_figuresAt 12 = .ok (.iconst 0, 1) := by decide +kernel
theorem dX3_figuresAt_13 : decode cX3_figuresAt 13 = .ok (.ireturn, 1) := by decide +kernel
theorem dX3_figuresAt_14 : decode cX3_figuresAt 14 = .ok (.aload_n 0, 1) := by decide +kernel
theorem dX3_figuresAt_15 : decode cX3_figuresAt 15 = .ok (.iload_n 1, 1) := by decide +kernel
theorem dX3_figuresAt_16 : decode cX3_figuresAt 16 = .ok (.iload_n 2, 1) := by decide +kernel
theorem dX3_figuresAt_17 : decode cX3_figuresAt 17 = .ok (.iconst 1, 1) := by decide +kernel
theorem dX3_figuresAt_18 : decode cX3_figuresAt 18 = .ok (.iadd, 1) := by decide +kernel
theorem dX3_figuresAt_19 : decode cX3_figuresAt 19 = .ok (.invokestatic 59, 3) := by decide +kernel
theorem dX3_figuresAt_22 : decode cX3_figuresAt 22 = .ok (.invokestatic 81, 3) := by decide +kernel
theorem dX3_figuresAt_25 : decode cX3_figuresAt 25 = .ok (.ifCond .eq 7, 3) := by decide +kernel
theorem dX3_figuresAt_28 : decode cX3_figuresAt 28 = .ok (.iconst 2, 1) := by decide +kernel
theorem dX3_figuresAt_29 : decode cX3_figuresAt 29 = .ok (.goto 4, 3) := by decide +kernel
theorem dX3_figuresAt_32 : decode cX3_figuresAt 32 = .ok (.iconst 1, 1) := by decide +kernel
theorem dX3_figuresAt_33 : decode cX3_figuresAt 33 = .ok (.ireturn, 1) := by decide +kernel
theorem dX3_numberAt_0 : decode cX3_numberAt 0 = .ok (.iconst 0, 1) := by decide +kernel
theorem dX3_numberAt_1 : decode cX3_numberAt 1 = .ok (.istore 4, 2) := by decide +kernel
theorem dX3_numberAt_3 : decode cX3_numberAt 3 = .ok (.iconst 0, 1) := by decide +kernel
theorem dX3_numberAt_4 : decode cX3_numberAt 4 = .ok (.istore 5, 2) := by decide +kernel
theorem dX3_numberAt_6 : decode cX3_numberAt 6 = .ok (.iload 5, 2) := by decide +kernel
theorem dX3_numberAt_8 : decode cX3_numberAt 8 = .ok (.iload_n 3, 1) := by decide +kernel
theorem dX3_numberAt_9 : decode cX3_numberAt 9 = .ok (.if_icmp .ge 29, 3) := by decide +kernel
theorem dX3_numberAt_12 : decode cX3_numberAt 12 = .ok (.iload 4, 2) := by decide +kernel
theorem dX3_numberAt_14 : decode cX3_numberAt 14 = .ok (.bipush 10, 2) := by decide +kernel
theorem dX3_numberAt_16 : decode cX3_numberAt 16 = .ok (.imul, 1) := by decide +kernel
theorem dX3_numberAt_17 : decode cX3_numberAt 17 = .ok (.aload_n 0, 1) := by decide +kernel
theorem dX3_numberAt_18 : decode cX3_numberAt 18 = .ok (.iload_n 1, 1) := by decide +kernel
theorem dX3_numberAt_19 : decode cX3_numberAt 19 = .ok (.iload_n 2, 1) := by decide +kernel
theorem dX3_numberAt_20 : decode cX3_numberAt 20 = .ok (.iload 5, 2) := by decide +kernel
theorem dX3_numberAt_22 : decode cX3_numberAt 22 = .ok (.iadd, 1) := by decide +kernel
theorem dX3_numberAt_23 : decode cX3_numberAt 23 = .ok (.invokestatic 59, 3) := by decide +kernel
theorem dX3_numberAt_26 : decode cX3_numberAt 26 = .ok (.iadd, 1) := by decide +kernel
theorem dX3_numberAt_27 : decode cX3_numberAt 27 = .ok (.bipush 48, 2) := by decide +kernel
theorem dX3_numberAt_29 : decode cX3_numberAt 29 = .ok (.isub, 1) := by decide +kernel
theorem dX3_numberAt_30 : decode cX3_numberAt 30 = .ok (.istore 4, 2) := by decide +kernel
theorem dX3_numberAt_32 : decode cX3_numberAt 32 = .ok (.iinc 5 1, 3) := by decide +kernel
theorem dX3_numberAt_35 : decode cX3_numberAt 35 = .ok (.goto (-29), 3) := by decide +kernel
theorem dX3_numberAt_38 : decode cX3_numberAt 38 = .ok (.iload 4, 2) := by decide +kernel
theorem dX3_numberAt_40 : decode cX3_numberAt 40 = .ok (.ireturn, 1) := by decide +kernel
theorem dX3_isFigure_0 : decode cX3_isFigure 0 = .ok (.iload_n 0, 1) := by decide +kernel
theorem dX3_isFigure_1 : decode cX3_isFigure 1 = .ok (.bipush 48, 2) := by decide +kernel
theorem dX3_isFigure_3 : decode cX3_isFigure 3 = .ok (.bipush 57, 2) := by decide +kernel
theorem dX3_isFigure_5 : decode cX3_isFigure 5 = .ok (.invokestatic 84, 3) := by decide +kernel
theorem dX3_isFigure_8 : decode cX3_isFigure 8 = .ok (.ireturn, 1) := by decide +kernel
theorem dX3_letterAt_0 : decode cX3_letterAt 0 = .ok (.iload_n 2, 1) := by decide +kernel
theorem dX3_letterAt_1 : decode cX3_letterAt 1 = .ok (.ifCond .lt 20, 3) := by decide +kernel
theorem dX3_letterAt_4 : decode cX3_letterAt 4 = .ok (.iload_n 2, 1) := by decide +kernel
theorem dX3_letterAt_5 : decode cX3_letterAt 5 = .ok (.iload_n 1, 1) := by decide +kernel
theorem dX3_letterAt_6 : decode cX3_letterAt 6 = .ok (.if_icmp .ge 15, 3) := by decide +kernel
theorem dX3_letterAt_9 : decode cX3_letterAt 9 = .ok (.iload_n 2, 1) := by decide +kernel
theorem dX3_letterAt_10 : decode cX3_letterAt 10 = .ok (.aload_n 0, 1) := by decide +kernel
theorem dX3_letterAt_11 : decode cX3_letterAt 11 = .ok (.arraylength, 1) := by decide +kernel
theorem dX3_letterAt_12 : decode cX3_letterAt 12 = .ok (.if_icmp .ge 9, 3) := by decide +kernel
theorem dX3_letterAt_15 : decode cX3_letterAt 15 = .ok (.aload_n 0, 1) := by decide +kernel
theorem dX3_letterAt_16 : decode cX3_letterAt 16 = .ok (.iload_n 2, 1) := by decide +kernel
theorem dX3_letterAt_17 : decode cX3_letterAt 17 = .ok (.caload, 1) := by decide +kernel
theorem dX3_letterAt_18 : decode cX3_letterAt 18 = .ok (.goto 4, 3) := by decide +kernel
theorem dX3_letterAt_21 : decode cX3_letterAt 21 = .ok (.iconst 0, 1) := by decide +kernel
theorem dX3_letterAt_22 : decode cX3_letterAt 22 = .ok (.ireturn, 1) := by decide +kernel
theorem dX3_takeItem_0 : decode cX3_takeItem 0 = .ok (.aload_n 0, 1) := by decide +kernel
theorem dX3_takeItem_1 : decode cX3_takeItem 1 = .ok (.getfield 24, 3) := by decide +kernel
theorem dX3_takeItem_4 : decode cX3_takeItem 4 = .ok (.iconst 0, 1) := by decide +kernel
theorem dX3_takeItem_5 : decode cX3_takeItem 5 = .ok (.invokestatic 88, 3) := by decide +kernel
theorem dX3_takeItem_8 : decode cX3_takeItem 8 = .ok (.istore_n 2, 1) := by decide +kernel
theorem dX3_takeItem_9 : decode cX3_takeItem 9 = .ok (.aload_n 0, 1) := by decide +kernel
theorem dX3_takeItem_10 : decode cX3_takeItem 10 = .ok (.getfield 24, 3) := by decide +kernel
theorem dX3_takeItem_13 : decode cX3_takeItem 13 = .ok (.iconst 1, 1) := by decide +kernel
theorem dX3_takeItem_14 : decode cX3_takeItem 14 = .ok (.invokestatic 88, 3) := by decide +kernel
theorem dX3_takeItem_17 : decode cX3_takeItem 17 = .ok (.istore_n 3, 1) := by decide +kernel
theorem dX3_takeItem_18 : decode cX3_takeItem 18 = .ok (.iload_n 1, 1) := by decide +kernel
theorem dX3_takeItem_19 : decode cX3_takeItem 19 = .ok (.tableswitch 194 100 115 #[188, 194, 194, 194, 140, 194, 194, 153, 194, 194, 194, 128, 194, 194, 92, 77], 77) := by decide +kernel
theorem dX3_takeItem_96 : decode cX3_takeItem 96 = .ok (.aload_n 0, 1) := by decide +kernel
theorem dX3_takeItem_97 : decode cX3_takeItem 97 = .ok (.iload_n 2, 1) := by decide +kernel
theorem dX3_takeItem_98 : decode cX3_takeItem 98 = .ok (.iload_n 3, 1) := by decide +kernel
theorem dX3_takeItem_99 : decode cX3_takeItem 99 = .ok (.aload_n 0, 1) := by decide +kernel
theorem dX3_takeItem_100 : decode cX3_takeItem 100 = .ok (.getfield 24, 3) := by decide +kernel
theorem dX3_takeItem_103 : decode cX3_takeItem 103 = .ok (.iconst 2, 1) := by decide +kernel
theorem dX3_takeItem_104 : decode cX3_takeItem 104 = .ok (.invokestatic 88, 3) := by decide +kernel
theorem dX3_takeItem_107 : decode cX3_takeItem 107 = .ok (.invokevirtual 92, 3) := by decide +kernel
theorem dX3_takeItem_110 : decode cX3_takeItem 110 = .ok (.ireturn, 1) := by decide +kernel
theorem dX3_takeItem_111 : decode cX3_takeItem 111 = .ok (.aload_n 0, 1) := by decide +kernel
theorem dX3_takeItem_112 : decode cX3_takeItem 112 = .ok (.iload_n 2, 1) := by decide +kernel
theorem dX3_takeItem_113 : decode cX3_takeItem 113 = .ok (.putfield 37, 3) := by decide +kernel
theorem dX3_takeItem_116 : decode cX3_takeItem 116 = .ok (.aload_n 0, 1) := by decide +kernel
theorem dX3_takeItem_117 : decode cX3_takeItem 117 = .ok (.iload_n 3, 1) := by decide +kernel
theorem dX3_takeItem_118 : decode cX3_takeItem 118 = .ok (.putfield 40, 3) := by decide +kernel
theorem dX3_takeItem_121 : decode cX3_takeItem 121 = .ok (.iload_n 2, 1) := by decide +kernel
theorem dX3_takeItem_122 : decode cX3_takeItem 122 = .ok (.iconst 1, 1) := by decide +kernel
theorem dX3_takeItem_123 : decode cX3_takeItem 123 = .ok (.bipush 6, 2) := by decide +kernel
theorem dX3_takeItem_125 : decode cX3_takeItem 125 = .ok (.invokestatic 84, 3) := by decide +kernel
theorem dX3_takeItem_128 : decode cX3_takeItem 128 = .ok (.ifCond .eq 17, 3) := by decide +kernel
theorem dX3_takeItem_131 : decode cX3_takeItem 131 = .ok (.iload_n 3, 1) := by decide +kernel
theorem dX3_takeItem_132 : decode cX3_takeItem 132 = .ok (.iconst 1, 1) := by decide +kernel
theorem dX3_takeItem_133 : decode cX3_takeItem 133 = .ok (.bipush 99, 2) := by decide +kernel
theorem dX3_takeItem_135 : decode cX3_takeItem 135 = .ok (.invokestatic 84, 3) := by decide +kernel
theorem dX3_takeItem_138 : decode cX3_takeItem 138 = .ok (.ifCond .eq 7, 3) := by decide +kernel
theorem dX3_takeItem_141 : decode cX3_takeItem 141 = .ok (.iconst 1, 1) := by decide +kernel
theorem dX3_takeItem_142 : decode cX3_takeItem 142 = .ok (.goto 4, 3) := by decide +kernel
theorem dX3_takeItem_145 : decode cX3_takeItem 145 = .ok (.iconst 0, 1) := by decide +kernel
theorem dX3_takeItem_146 : decode cX3_takeItem 146 = .ok (.ireturn, 1) := by decide +kernel
theorem dX3_takeItem_147 : decode cX3_takeItem 147 = .ok (.aload_n 0, 1) := by decide +kernel
theorem dX3_takeItem_148 : decode cX3_takeItem 148 = .ok (.iload_n 2, 1) := by decide +kernel
theorem dX3_takeItem_149 : decode cX3_takeItem 149 = .ok (.putfield 43, 3) := by decide +kernel
theorem dX3_takeItem_152 : decode cX3_takeItem 152 = .ok (.iload_n 2, 1) := by decide +kernel
theorem dX3_takeItem_153 : decode cX3_takeItem 153 = .ok (.iconst 0, 1) := by decide +kernel
theorem dX3_takeItem_154 : decode cX3_takeItem 154 = .ok (.iconst 5, 1) := by decide +kernel
theorem dX3_takeItem_155 : decode cX3_takeItem 155 = .ok (.invokestatic 84, 3) := by decide +kernel
theorem dX3_takeItem_158 : decode cX3_takeItem 158 = .ok (.ireturn, 1) := by decide +kernel
theorem dX3_takeItem_159 : decode cX3_takeItem 159 = .ok (.aload_n 0, 1) := by decide +kernel
theorem dX3_takeItem_160 : decode cX3_takeItem 160 = .ok (.iload_n 2, 1) := by decide +kernel
theorem dX3_takeItem_161 : decode cX3_takeItem 161 = .ok (.putfield 46, 3) := by decide +kernel
theorem dX3_takeItem_164 : decode cX3_takeItem 164 = .ok (.iload_n 2, 1) := by decide +kernel
theorem dX3_takeItem_165 : decode cX3_takeItem 165 = .ok (.iconst 1, 1) := by decide +kernel
theorem dX3_takeItem_166 : decode cX3_takeItem 166 = .ok (.bipush 30, 2) := by decide +kernel
theorem dX3_takeItem_168 : decode cX3_takeItem 168 = .ok (.invokestatic 84, 3) := by decide +kernel
theorem dX3_takeItem_171 : decode cX3_takeItem 171 = .ok (.ireturn, 1) := by decide +kernel
theorem dX3_takeItem_172 : decode cX3_takeItem 172 = .ok (.aload_n 0, 1) := by decide +kernel
theorem dX3_takeItem_173 : decode cX3_takeItem 173 = .ok (.iload_n 2, 1) := by decide +kernel
theorem dX3_takeItem_174 : decode cX3_takeItem 174 = .ok (.putfield 49, 3) := by decide +kernel
theorem dX3_takeItem_177 : decode cX3_takeItem 177 = .ok (.aload_n 0, 1) := by decide +kernel
theorem dX3_takeItem_178 : decode cX3_takeItem 178 = .ok (.iload_n 3, 1) := by decide +kernel
theorem dX3_takeItem_179 : decode cX3_takeItem 179 = .ok (.putfield 52, 3) := by decide +kernel
theorem dX3_takeItem_182 : decode cX3_takeItem 182 = .ok (.iload_n 2, 1) := by decide +kernel
theorem dX3_takeItem_183 : decode cX3_takeItem 183 = .ok (.iconst 0, 1) := by decide +kernel
theorem dX3_takeItem_184 : decode cX3_takeItem 184 = .ok (.iconst 3, 1) := by decide +kernel
theorem dX3_takeItem_185 : decode cX3_takeItem 185 = .ok (.invokestatic 84, 3) := by decide +kernel
theorem dX3_takeItem_188 : decode cX3_takeItem 188 = .ok (.ifCond .eq 17, 3) := by decide +kernel
theorem dX3_takeItem_191 : decode cX3_takeItem 191 = .ok (.iload_n 3, 1) := by decide +kernel
theorem dX3_takeItem_192 : decode cX3_takeItem 192 = .ok (.iconst 1, 1) := by decide +kernel
theorem dX3_takeItem_193 : decode cX3_takeItem 193 = .ok (.bipush 9, 2) := by decide +kernel
theorem dX3_takeItem_195 : decode cX3_takeItem 195 = .ok (.invokestatic 84, 3) := by decide +kernel
theorem dX3_takeItem_198 : decode cX3_takeItem 198 = .ok (.ifCond .eq 7, 3) := by decide +kernel
theorem dX3_takeItem_201 : decode cX3_takeItem 201 = .ok (.iconst 1, 1) := by decide +kernel
theorem dX3_takeItem_202 : decode cX3_takeItem 202 = .ok (.goto 4, 3) := by decide +kernel
theorem dX3_takeItem_205 : decode cX3_takeItem 205 = .ok (.iconst 0, 1) := by decide +kernel
theorem dX3_takeItem_206 : decode cX3_takeItem 206 = .ok (.ireturn, 1) := by decide +kernel
theorem dX3_takeItem_207 : decode cX3_takeItem 207 = .ok (.aload_n 0, 1) := by decide +kernel
theorem dX3_takeItem_208 : decode cX3_takeItem 208 = .ok (.iload_n 2, 1) := by decide +kernel
theorem dX3_takeItem_209 : decode cX3_takeItem 209 = .ok (.invokevirtual 95, 3) := by decide +kernel
theorem dX3_takeItem_212 : decode cX3_takeItem 212 = .ok (.ireturn, 1) := by decide +kernel
theorem dX3_takeItem_213 : decode cX3_takeItem 213 = .ok (.iconst 0, 1) := by decide +kernel
theorem dX3_takeItem_214 : decode cX3_takeItem 214 = .ok (.ireturn, 1) := by decide +kernel
theorem dX3_takeStrip_0 : decode cX3_takeStrip 0 = .ok (.aload_n 0, 1) := by decide +kernel
theorem dX3_takeStrip_1 : decode cX3_takeStrip 1 = .ok (.getfield 30, 3) := by decide +kernel
theorem dX3_takeStrip_4 : decode cX3_takeStrip 4 = .ok (.bipush 12, 2) := by decide +kernel
theorem dX3_takeStrip_6 : decode cX3_takeStrip 6 = .ok (.if_icmp .ge 13, 3) := by decide +kernel
theorem dX3_takeStrip_9 : decode cX3_takeStrip 9 = .ok (.iload_n 1, 1) := by decide +kernel
theorem dX3_takeStrip_10 : decode cX3_takeStrip 10 = .ok (.iconst 1, 1) := by decide +kernel
theorem dX3_takeStrip_11 : decode cX3_takeStrip 11 = .ok (.bipush 40, 2) := by decide +kernel
theorem dX3_takeStrip_13 : decode cX3_takeStrip 13 = .ok (.invokestatic 84, 3) := by decide +kernel
theorem dX3_takeStrip_16 : decode cX3_takeStrip 16 = .ok (.ifCond .ne 5, 3) := by decide +kernel
theorem dX3_takeStrip_19 : decode cX3_takeStrip 19 = .ok (.iconst 0, 1) := by decide +kernel
theorem dX3_takeStrip_20 : decode cX3_takeStrip 20 = .ok (.ireturn, 1) := by decide +kernel
theorem dX3_takeStrip_21 : decode cX3_takeStrip 21 = .ok (.iload_n 2, 1) := by decide +kernel
theorem dX3_takeStrip_22 : decode cX3_takeStrip 22 = .ok (.iconst 0, 1) := by decide +kernel
theorem dX3_takeStrip_23 : decode cX3_takeStrip 23 = .ok (.bipush 9, 2) := by decide +kernel
theorem dX3_takeStrip_25 : decode cX3_takeStrip 25 = .ok (.invokestatic 84, 3) := by decide +kernel
theorem dX3_takeStrip_28 : decode cX3_takeStrip 28 = .ok (.ifCond .eq 13, 3) := by decide +kernel
theorem dX3_takeStrip_31 : decode cX3_takeStrip 31 = .ok (.iload_n 3, 1) := by decide +kernel
theorem dX3_takeStrip_32 : decode cX3_takeStrip 32 = .ok (.iconst 0, 1) := by decide +kernel
theorem dX3_takeStrip_33 : decode cX3_takeStrip 33 = .ok (.bipush 9, 2) := by decide +kernel
theorem dX3_takeStrip_35 : decode cX3_takeStrip 35 = .ok (.invokestatic 84, 3) := by decide +kernel
theorem dX3_takeStrip_38 : decode cX3_takeStrip 38 = .ok (.ifCond .ne 5, 3) := by decide +kernel
theorem dX3_takeStrip_41 : decode cX3_takeStrip 41 = .ok (.iconst 0, 1) := by decide +kernel
theorem dX3_takeStrip_42 : decode cX3_takeStrip 42 = .ok (.ireturn, 1) := by decide +kernel
theorem dX3_takeStrip_43 : decode cX3_takeStrip 43 = .ok (.aload_n 0, 1) := by decide +kernel
theorem dX3_takeStrip_44 : decode cX3_takeStrip 44 = .ok (.getfield 9, 3) := by decide +kernel
theorem dX3_takeStrip_47 : decode cX3_takeStrip 47 = .ok (.aload_n 0, 1) := by decide +kernel
theorem dX3_takeStrip_48 : decode cX3_takeStrip 48 = .ok (.getfield 30, 3) := by decide +kernel
theorem dX3_takeStrip_51 : decode cX3_takeStrip 51 = .ok (.iload_n 1, 1) := by decide +kernel
theorem dX3_takeStrip_52 : decode cX3_takeStrip 52 = .ok (.invokestatic 77, 3) := by decide +kernel
theorem dX3_takeStrip_55 : decode cX3_takeStrip 55 = .ok (.aload_n 0, 1) := by decide +kernel
theorem dX3_takeStrip_56 : decode cX3_takeStrip 56 = .ok (.getfield 15, 3) := by decide +kernel
theorem dX3_takeStrip_59 : decode cX3_takeStrip 59 = .ok (.aload_n 0, 1) := by decide +kernel
theorem dX3_takeStrip_60 : decode cX3_takeStrip 60 = .ok (.getfield 30, 3) := by decide +kernel
theorem dX3_takeStrip_63 : decode cX3_takeStrip 63 = .ok (.iload_n 2, 1) := by decide +kernel
theorem dX3_takeStrip_64 : decode cX3_takeStrip 64 = .ok (.invokestatic 77, 3) := by decide +kernel
theorem dX3_takeStrip_67 : decode cX3_takeStrip 67 = .ok (.aload_n 0, 1) := by decide +kernel
theorem dX3_takeStrip_68 : decode cX3_takeStrip 68 = .ok (.getfield 18, 3) := by decide +kernel
theorem dX3_takeStrip_71 : decode cX3_takeStrip 71 = .ok (.aload_n 0, 1) := by decide +kernel
theorem dX3_takeStrip_72 : decode cX3_takeStrip 72 = .ok (.getfield 30, 3) := by decide +kernel
theorem dX3_takeStrip_75 : decode cX3_takeStrip 75 = .ok (.iload_n 3, 1) := by decide +kernel
theorem dX3_takeStrip_76 : decode cX3_takeStrip 76 = .ok (.invokestatic 77, 3) := by decide +kernel
theorem dX3_takeStrip_79 : decode cX3_takeStrip 79 = .ok (.aload_n 0, 1) := by decide +kernel
theorem dX3_takeStrip_80 : decode cX3_takeStrip 80 = .ok (.dup, 1) := by decide +kernel
theorem dX3_takeStrip_81 : decode cX3_takeStrip 81 = .ok (.getfield 30, 3) := by decide +kernel
theorem dX3_takeStrip_84 : decode cX3_takeStrip 84 = .ok (.iconst 1, 1) := by decide +kernel
theorem dX3_takeStrip_85 : decode cX3_takeStrip 85 = .ok (.iadd, 1) := by decide +kernel
theorem dX3_takeStrip_86 : decode cX3_takeStrip 86 = .ok (.putfield 30, 3) := by decide +kernel
theorem dX3_takeStrip_89 : decode cX3_takeStrip 89 = .ok (.iconst 1, 1) := by decide +kernel
theorem dX3_takeStrip_90 : decode cX3_takeStrip 90 = .ok (.ireturn, 1) := by decide +kernel
theorem dX3_takeDamp_0 : decode cX3_takeDamp 0 = .ok (.aload_n 0, 1) := by decide +kernel
theorem dX3_takeDamp_1 : decode cX3_takeDamp 1 = .ok (.getfield 34, 3) := by decide +kernel
theorem dX3_takeDamp_4 : decode cX3_takeDamp 4 = .ok (.bipush 12, 2) := by decide +kernel
theorem dX3_takeDamp_6 : decode cX3_takeDamp 6 = .ok (.if_icmp .ge 13, 3) := by decide +kernel
theorem dX3_takeDamp_9 : decode cX3_takeDamp 9 = .ok (.iload_n 1, 1) := by decide +kernel
theorem dX3_takeDamp_10 : decode cX3_takeDamp 10 = .ok (.iconst 0, 1) := by decide +kernel
theorem dX3_takeDamp_11 : decode cX3_takeDamp 11 = .ok (.bipush 9, 2) := by decide +kernel
theorem dX3_takeDamp_13 : decode cX3_takeDamp 13 = .ok (.invokestatic 84, 3) := by decide +kernel
theorem dX3_takeDamp_16 : decode cX3_takeDamp 16 = .ok (.ifCond .ne 5, 3) := by decide +kernel
theorem dX3_takeDamp_19 : decode cX3_takeDamp 19 = .ok (.iconst 0, 1) := by decide +kernel
theorem dX3_takeDamp_20 : decode cX3_takeDamp 20 = .ok (.ireturn, 1) := by decide +kernel
theorem dX3_takeDamp_21 : decode cX3_takeDamp 21 = .ok (.aload_n 0, 1) := by decide +kernel
theorem dX3_takeDamp_22 : decode cX3_takeDamp 22 = .ok (.getfield 21, 3) := by decide +kernel
theorem dX3_takeDamp_25 : decode cX3_takeDamp 25 = .ok (.aload_n 0, 1) := by decide +kernel
theorem dX3_takeDamp_26 : decode cX3_takeDamp 26 = .ok (.getfield 34, 3) := by decide +kernel
theorem dX3_takeDamp_29 : decode cX3_takeDamp 29 = .ok (.iload_n 1, 1) := by decide +kernel
theorem dX3_takeDamp_30 : decode cX3_takeDamp 30 = .ok (.invokestatic 77, 3) := by decide +kernel
theorem dX3_takeDamp_33 : decode cX3_takeDamp 33 = .ok (.aload_n 0, 1) := by decide +kernel
theorem dX3_takeDamp_34 : decode cX3_takeDamp 34 = .ok (.dup, 1) := by decide +kernel
theorem dX3_takeDamp_35 : decode cX3_takeDamp 35 = .ok (.getfield 34, 3) := by decide +kernel
theorem dX3_takeDamp_38 : decode cX3_takeDamp 38 = .ok (.iconst 1, 1) := by decide +kernel
theorem dX3_takeDamp_39 : decode cX3_takeDamp 39 = .ok (.iadd, 1) := by decide +kernel
theorem dX3_takeDamp_40 : decode cX3_takeDamp 40 = .ok (.putfield 34, 3) := by decide +kernel
theorem dX3_takeDamp_43 : decode cX3_takeDamp 43 = .ok (.iconst 1, 1) := by decide +kernel
theorem dX3_takeDamp_44 : decode cX3_takeDamp 44 = .ok (.ireturn, 1) := by decide +kernel
theorem dX3_lengthOfStrip_0 : decode cX3_lengthOfStrip 0 = .ok (.aload_n 0, 1) := by decide +kernel
theorem dX3_lengthOfStrip_1 : decode cX3_lengthOfStrip 1 = .ok (.getfield 9, 3) := by decide +kernel
theorem dX3_lengthOfStrip_4 : decode cX3_lengthOfStrip 4 = .ok (.iload_n 1, 1) := by decide +kernel
theorem dX3_lengthOfStrip_5 : decode cX3_lengthOfStrip 5 = .ok (.invokestatic 88, 3) := by decide +kernel
theorem dX3_lengthOfStrip_8 : decode cX3_lengthOfStrip 8 = .ok (.ireturn, 1) := by decide +kernel
theorem dX3_lightAt_0 : decode cX3_lightAt 0 = .ok (.aload_n 0, 1) := by decide +kernel
theorem dX3_lightAt_1 : decode cX3_lightAt 1 = .ok (.getfield 15, 3) := by decide +kernel
theorem dX3_lightAt_4 : decode cX3_lightAt 4 = .ok (.iload_n 1, 1) := by decide +kernel
theorem dX3_lightAt_5 : decode cX3_lightAt 5 = .ok (.invokestatic 88, 3) := by decide +kernel
theorem dX3_lightAt_8 : decode cX3_lightAt 8 = .ok (.ireturn, 1) := by decide +kernel
theorem dX3_treadAt_0 : decode cX3_treadAt 0 = .ok (.aload_n 0, 1) := by decide +kernel
theorem dX3_treadAt_1 : decode cX3_treadAt 1 = .ok (.getfield 18, 3) := by decide +kernel
theorem dX3_treadAt_4 : decode cX3_treadAt 4 = .ok (.iload_n 1, 1) := by decide +kernel
theorem dX3_treadAt_5 : decode cX3_treadAt 5 = .ok (.invokestatic 88, 3) := by decide +kernel
theorem dX3_treadAt_8 : decode cX3_treadAt 8 = .ok (.ireturn, 1) := by decide +kernel
theorem dX3_dampOf_0 : decode cX3_dampOf 0 = .ok (.aload_n 0, 1) := by decide +kernel
theorem dX3_dampOf_1 : decode cX3_dampOf 1 = .ok (.getfield 34, 3) := by decide +kernel
theorem dX3_dampOf_4 : decode cX3_dampOf 4 = .ok (.ifCond .le 19, 3) := by decide +kernel
theorem dX3_dampOf_7 : decode cX3_dampOf 7 = .ok (.aload_n 0, 1) := by decide +kernel
theorem dX3_dampOf_8 : decode cX3_dampOf 8 = .ok (.getfield 21, 3) := by decide +kernel
theorem dX3_dampOf_11 : decode cX3_dampOf 11 = .ok (.iload_n 1, 1) := by decide +kernel
theorem dX3_dampOf_12 : decode cX3_dampOf 12 = .ok (.aload_n 0, 1) := by decide +kernel
theorem dX3_dampOf_13 : decode cX3_dampOf 13 = .ok (.getfield 34, 3) := by decide +kernel
theorem dX3_dampOf_16 : decode cX3_dampOf 16 = .ok (.irem, 1) := by decide +kernel
theorem dX3_dampOf_17 : decode cX3_dampOf 17 = .ok (.invokestatic 88, 3) := by decide +kernel
theorem dX3_dampOf_20 : decode cX3_dampOf 20 = .ok (.goto 4, 3) := by decide +kernel
theorem dX3_dampOf_23 : decode cX3_dampOf 23 = .ok (.iconst 4, 1) := by decide +kernel
theorem dX3_dampOf_24 : decode cX3_dampOf 24 = .ok (.ireturn, 1) := by decide +kernel
theorem dX3_slackeningIn_0 : decode cX3_slackeningIn 0 = .ok (.aload_n 0, 1) := by decide +kernel
theorem dX3_slackeningIn_1 : decode cX3_slackeningIn 1 = .ok (.iload_n 1, 1) := by decide +kernel
theorem dX3_slackeningIn_2 : decode cX3_slackeningIn 2 = .ok (.invokevirtual 98, 3) := by decide +kernel
theorem dX3_slackeningIn_5 : decode cX3_slackeningIn 5 = .ok (.iconst 3, 1) := by decide +kernel
theorem dX3_slackeningIn_6 : decode cX3_slackeningIn 6 = .ok (.idiv, 1) := by decide +kernel
theorem dX3_slackeningIn_7 : decode cX3_slackeningIn 7 = .ok (.ireturn, 1) := by decide +kernel
theorem dX3_lengthFor_0 : decode cX3_lengthFor 0 = .ok (.iconst 0, 1) := by decide +kernel
theorem dX3_lengthFor_1 : decode cX3_lengthFor 1 = .ok (.istore_n 3, 1) := by decide +kernel
theorem dX3_lengthFor_2 : decode cX3_lengthFor 2 = .ok (.iconst 0, 1) := by decide +kernel
theorem dX3_lengthFor_3 : decode cX3_lengthFor 3 = .ok (.istore 4, 2) := by decide +kernel
theorem dX3_lengthFor_5 : decode cX3_lengthFor 5 = .ok (.iload 4, 2) := by decide +kernel
theorem dX3_lengthFor_7 : decode cX3_lengthFor 7 = .ok (.iload_n 2, 1) := by decide +kernel
theorem dX3_lengthFor_8 : decode cX3_lengthFor 8 = .ok (.if_icmp .ge 25, 3) := by decide +kernel
theorem dX3_lengthFor_11 : decode cX3_lengthFor 11 = .ok (.iload_n 3, 1) := by decide +kernel
theorem dX3_lengthFor_12 : decode cX3_lengthFor 12 = .ok (.aload_n 0, 1) := by decide +kernel
theorem dX3_lengthFor_13 : decode cX3_lengthFor 13 = .ok (.getfield 9, 3) := by decide +kernel
theorem dX3_lengthFor_16 : decode cX3_lengthFor 16 = .ok (.iload_n 1, 1) := by decide +kernel
theorem dX3_lengthFor_17 : decode cX3_lengthFor 17 = .ok (.iload 4, 2) := by decide +kernel
theorem dX3_lengthFor_19 : decode cX3_lengthFor 19 = .ok (.iadd, 1) := by decide +kernel
theorem dX3_lengthFor_20 : decode cX3_lengthFor 20 = .ok (.invokestatic 88, 3) := by decide +kernel
theorem dX3_lengthFor_23 : decode cX3_lengthFor 23 = .ok (.invokestatic 101, 3) := by decide +kernel
theorem dX3_lengthFor_26 : decode cX3_lengthFor 26 = .ok (.istore_n 3, 1) := by decide +kernel
theorem dX3_lengthFor_27 : decode cX3_lengthFor 27 = .ok (.iinc 4 1, 3) := by decide +kernel
theorem dX3_lengthFor_30 : decode cX3_lengthFor 30 = .ok (.goto (-25), 3) := by decide +kernel
theorem dX3_lengthFor_33 : decode cX3_lengthFor 33 = .ok (.iload_n 3, 1) := by decide +kernel
theorem dX3_lengthFor_34 : decode cX3_lengthFor 34 = .ok (.aload_n 0, 1) := by decide +kernel
theorem dX3_lengthFor_35 : decode cX3_lengthFor 35 = .ok (.getfield 43, 3) := by decide +kernel
theorem dX3_lengthFor_38 : decode cX3_lengthFor 38 = .ok (.iadd, 1) := by decide +kernel
theorem dX3_lengthFor_39 : decode cX3_lengthFor 39 = .ok (.ireturn, 1) := by decide +kernel
theorem dX4_init_0 : decode cX4_init 0 = .ok (.aload_n 0, 1) := by decide +kernel
theorem dX4_init_1 : decode cX4_init 1 = .ok (.invokespecial 1, 3) := by decide +kernel
theorem dX4_init_4 : decode cX4_init 4 = .ok (.aload_n 0, 1) := by decide +kernel
theorem dX4_init_5 : decode cX4_init 5 = .ok (.iconst 1, 1) := by decide +kernel
theorem dX4_init_6 : decode cX4_init 6 = .ok (.iload_n 1, 1) := by decide +kernel
theorem dX4_init_7 : decode cX4_init 7 = .ok (.invokestatic 7, 3) := by decide +kernel
theorem dX4_init_10 : decode cX4_init 10 = .ok (.anewarray 13, 3) := by decide +kernel
theorem dX4_init_13 : decode cX4_init 13 = .ok (.putfield 15, 3) := by decide +kernel
theorem dX4_init_16 : decode cX4_init 16 = .ok (.iconst 0, 1) := by decide +kernel
theorem dX4_init_17 : decode cX4_init 17 = .ok (.istore_n 2, 1) := by decide +kernel
theorem dX4_init_18 : decode cX4_init 18 = .ok (.iload_n 2, 1) := by decide +kernel
theorem dX4_init_19 : decode cX4_init 19 = .ok (.aload_n 0, 1) := by decide +kernel
theorem dX4_init_20 : decode cX4_init 20 = .ok (.getfield 15, 3) := by decide +kernel
theorem dX4_init_23 : decode cX4_init 23 = .ok (.arraylength, 1) := by decide +kernel
theorem dX4_init_24 : decode cX4_init 24 = .ok (.if_icmp .ge 22, 3) := by decide +kernel
theorem dX4_init_27 : decode cX4_init 27 = .ok (.aload_n 0, 1) := by decide +kernel
theorem dX4_init_28 : decode cX4_init 28 = .ok (.getfield 15, 3) := by decide +kernel
theorem dX4_init_31 : decode cX4_init 31 = .ok (.iload_n 2, 1) := by decide +kernel
theorem dX4_init_32 : decode cX4_init 32 = .ok (.new 13, 3) := by decide +kernel
theorem dX4_init_35 : decode cX4_init 35 = .ok (.dup, 1) := by decide +kernel
theorem dX4_init_36 : decode cX4_init 36 = .ok (.invokespecial 21, 3) := by decide +kernel
theorem dX4_init_39 : decode cX4_init 39 = .ok (.aastore, 1) := by decide +kernel
theorem dX4_init_40 : decode cX4_init 40 = .ok (.iinc 2 1, 3) := by decide +kernel
theorem dX4_init_43 : decode cX4_init 43 = .ok (.goto (-25), 3) := by decide +kernel
theorem dX4_init_46 : decode cX4_init 46 = .ok (.return_, 1) := by decide +kernel
theorem dX4_clear_0 : decode cX4_clear 0 = .ok (.aload_n 0, 1) := by decide +kernel
theorem dX4_clear_1 : decode cX4_clear 1 = .ok (.iconst 0, 1) := by decide +kernel
theorem dX4_clear_2 : decode cX4_clear 2 = .ok (.putfield 22, 3) := by decide +kernel
theorem dX4_clear_5 : decode cX4_clear 5 = .ok (.aload_n 0, 1) := by decide +kernel
theorem dX4_clear_6 : decode cX4_clear 6 = .ok (.iconst 0, 1) := by decide +kernel
theorem dX4_clear_7 : decode cX4_clear 7 = .ok (.putfield 26, 3) := by decide +kernel
theorem dX4_clear_10 : decode cX4_clear 10 = .ok (.return_, 1) := by decide +kernel
theorem dX4_isFull_0 : decode cX4_isFull 0 = .ok (.aload_n 0, 1) := by decide +kernel
theorem dX4_isFull_1 : decode cX4_isFull 1 = .ok (.getfield 26, 3) := by decide +kernel
theorem dX4_isFull_4 : decode cX4_isFull 4 = .ok (.aload_n 0, 1) := by decide +kernel
theorem dX4_isFull_5 : decode cX4_isFull 5 = .ok (.getfield 15, 3) := by decide +kernel
theorem dX4_isFull_8 : decode cX4_isFull 8 = .ok (.arraylength, 1) := by decide +kernel
theorem dX4_isFull_9 : decode cX4_isFull 9 = .ok (.if_icmp .lt 7, 3) := by decide +kernel
theorem dX4_isFull_12 : decode cX4_isFull 12 = .ok (.iconst 1, 1) := by decide +kernel
theorem dX4_isFull_13 : decode cX4_isFull 13 = .ok (.goto 4, 3) := by decide +kernel
theorem dX4_isFull_16 : decode cX4_isFull 16 = .ok (.iconst 0, 1) := by decide +kernel
theorem dX4_isFull_17 : decode cX4_isFull 17 = .ok (.ireturn, 1) := by decide +kernel
theorem dX4_rowAt_0 : decode cX4_rowAt 0 = .ok (.iload_n 1, 1) := by decide +kernel
theorem dX4_rowAt_1 : decode cX4_rowAt 1 = .ok (.ifCond .lt 21, 3) := by decide +kernel
theorem dX4_rowAt_4 : decode cX4_rowAt 4 = .ok (.iload_n 1, 1) := by decide +kernel
theorem dX4_rowAt_5 : decode cX4_rowAt 5 = .ok (.aload_n 0, 1) := by decide +kernel
theorem dX4_rowAt_6 : decode cX4_rowAt 6 = .ok (.getfield 15, 3) := by decide +kernel
theorem dX4_rowAt_9 : decode cX4_rowAt 9 = .ok (.arraylength, 1) := by decide +kernel
theorem dX4_rowAt_10 : decode cX4_rowAt 10 = .ok (.if_icmp .ge 12, 3) := by decide +kernel
theorem dX4_rowAt_13 : decode cX4_rowAt 13 = .ok (.aload_n 0, 1) := by decide +kernel
theorem dX4_rowAt_14 : decode cX4_rowAt 14 = .ok (.getfield 15, 3) := by decide +kernel
theorem dX4_rowAt_17 : decode cX4_rowAt 17 = .ok (.iload_n 1, 1) := by decide +kernel
theorem dX4_rowAt_18 : decode cX4_rowAt 18 = .ok (.aaload, 1) := by decide +kernel
theorem dX4_rowAt_19 : decode cX4_rowAt 19 = .ok (.goto 4, 3) := by decide +kernel
theorem dX4_rowAt_22 : decode cX4_rowAt 22 = .ok (.aconst_null, 1) := by decide +kernel
theorem dX4_rowAt_23 : decode cX4_rowAt 23 = .ok (.areturn, 1) := by decide +kernel
theorem dX4_push_0 : decode cX4_push 0 = .ok (.aload_n 0, 1) := by decide +kernel
theorem dX4_push_1 : decode cX4_push 1 = .ok (.aload_n 0, 1) := by decide +kernel
theorem dX4_push_2 : decode cX4_push 2 = .ok (.getfield 22, 3) := by decide +kernel
theorem dX4_push_5 : decode cX4_push 5 = .ok (.invokevirtual 29, 3) := by decide +kernel
theorem dX4_push_8 : decode cX4_push 8 = .ok (.astore_n 2, 1) := by decide +kernel
theorem dX4_push_9 : decode cX4_push 9 = .ok (.aload_n 2, 1) := by decide +kernel
theorem dX4_push_10 : decode cX4_push 10 = .ok (.ifnonnull 4, 3) := by decide +kernel
theorem dX4_push_13 : decode cX4_push 13 = .ok (.return_, 1) := by decide +kernel
theorem dX4_push_14 : decode cX4_push 14 = .ok (.aload_n 2, 1) := by decide +kernel
theorem dX4_push_15 : decode cX4_push 15 = .ok (.aload_n 1, 1) := by decide +kernel
theorem dX4_push_16 : decode cX4_push 16 = .ok (.invokevirtual 33, 3) := by decide +kernel
theorem dX4_push_19 : decode cX4_push 19 = .ok (.aload_n 0, 1) := by decide +kernel
theorem dX4_push_20 : decode cX4_push 20 = .ok (.aload_n 0, 1) := by decide +kernel
theorem dX4_push_21 : decode cX4_push 21 = .ok (.getfield 22, 3) := by decide +kernel
theorem dX4_push_24 : decode cX4_push 24 = .ok (.iconst 1, 1) := by decide +kernel
theorem dX4_push_25 : decode cX4_push 25 = .ok (.iadd, 1) := by decide +kernel
theorem dX4_push_26 : decode cX4_push 26 = .ok (.aload_n 0, 1) := by decide +kernel
theorem dX4_push_27 : decode cX4_push 27 = .ok (.getfield 15, 3) := by decide +kernel
theorem dX4_push_30 : decode cX4_push 30 = .ok (.arraylength, 1) := by decide +kernel
theorem dX4_push_31 : decode cX4_push 31 = .ok (.if_icmp .ge 12, 3) := by decide +kernel
theorem dX4_push_34 : decode cX4_push 34 = .ok (.aload_n 0, 1) := by decide +kernel
theorem dX4_push_35 : decode cX4_push 35 = .ok (.getfield 22, 3) := by decide +kernel
theorem dX4_push_38 : decode cX4_push 38 = .ok (.iconst 1, 1) := by decide +kernel
theorem dX4_push_39 : decode cX4_push 39 = .ok (.iadd, 1) := by decide +kernel
theorem dX4_push_40 : decode cX4_push 40 = .ok (.goto 4, 3) := by decide +kernel
theorem dX4_push_43 : decode cX4_push 43 = .ok (.iconst 0, 1) := by decide +kernel
theorem dX4_push_44 : decode cX4_push 44 = .ok (.putfield 22, 3) := by decide +kernel
theorem dX4_push_47 : decode cX4_push 47 = .ok (.aload_n 0, 1) := by decide +kernel
theorem dX4_push_48 : decode cX4_push 48 = .ok (.aload_n 0, 1) := by decide +kernel
theorem dX4_push_49 : decode cX4_push 49 = .ok (.getfield 26, 3) := by decide +kernel
theorem dX4_push_52 : decode cX4_push 52 = .ok (.iconst 1, 1) := by decide +kernel
theorem dX4_push_53 : decode cX4_push 53 = .ok (.iadd, 1) := by decide +kernel
theorem dX4_push_54 : decode cX4_push 54 = .ok (.aload_n 0, 1) := by decide +kernel
theorem dX4_push_55 : decode cX4_push 55 = .ok (.getfield 15, 3) := by decide +kernel
theorem dX4_push_58 : decode cX4_push 58 = .ok (.arraylength, 1) := by decide +kernel
theorem dX4_push_59 : decode cX4_push 59 = .ok (.invokestatic 37, 3) := by decide +kernel
theorem dX4_push_62 : decode cX4_push 62 = .ok (.putfield 26, 3) := by decide +kernel
theorem dX4_push_65 : decode cX4_push 65 = .ok (.return_, 1) := by decide +kernel
theorem dX4_pop_0 : decode cX4_pop 0 = .ok (.aload_n 0, 1) := by decide +kernel
theorem dX4_pop_1 : decode cX4_pop 1 = .ok (.getfield 22, 3) := by decide +kernel
theorem dX4_pop_4 : decode cX4_pop 4 = .ok (.ifCond .le 12, 3) := by decide +kernel
theorem dX4_pop_7 : decode cX4_pop 7 = .ok (.aload_n 0, 1) := by decide +kernel
theorem dX4_pop_8 : decode cX4_pop 8 = .ok (.getfield 22, 3) := by decide +kernel
theorem dX4_pop_11 : decode cX4_pop 11 = .ok (.iconst 1, 1) := by decide +kernel
theorem dX4_pop_12 : decode cX4_pop 12 = .ok (.isub, 1) := by decide +kernel
theorem dX4_pop_13 : decode cX4_pop 13 = .ok (.goto 10, 3) := by decide +kernel
theorem dX4_pop_16 : decode cX4_pop 16 = .ok (.aload_n 0, 1) := by decide +kernel
theorem dX4_pop_17 : decode cX4_pop 17 = .ok (.getfield 15, 3) := by decide +kernel
theorem dX4_pop_20 : decode cX4_pop 20 = .ok (.arraylength, 1) := by decide +kernel
theorem dX4_pop_21 : decode cX4_pop 21 = .ok (.iconst 1, 1) := by decide +kernel
theorem dX4_pop_22 : decode cX4_pop 22 = .ok (.isub, 1) := by decide +kernel
theorem dX4_pop_23 : decode cX4_pop 23 = .ok (.istore_n 2, 1) := by decide +kernel
theorem dX4_pop_24 : decode cX4_pop 24 = .ok (.aload_n 0, 1) := by decide +kernel
theorem dX4_pop_25 : decode cX4_pop 25 = .ok (.iload_n 2, 1) := by decide +kernel
theorem dX4_pop_26 : decode cX4_pop 26 = .ok (.invokevirtual 29, 3) := by decide +kernel
theorem dX4_pop_29 : decode cX4_pop 29 = .ok (.astore_n 3, 1) := by decide +kernel
theorem dX4_pop_30 : decode cX4_pop 30 = .ok (.aload_n 3, 1) := by decide +kernel
theorem dX4_pop_31 : decode cX4_pop 31 = .ok (.ifnull 10, 3) := by decide +kernel
theorem dX4_pop_34 : decode cX4_pop 34 = .ok (.aload_n 0, 1) := by decide +kernel
theorem dX4_pop_35 : decode cX4_pop 35 = .ok (.getfield 26, 3) := by decide +kernel
theorem dX4_pop_38 : decode cX4_pop 38 = .ok (.ifCond .gt 5, 3) := by decide +kernel
theorem dX4_pop_41 : decode cX4_pop 41 = .ok (.iconst 0, 1) := by decide +kernel
theorem dX4_pop_42 : decode cX4_pop 42 = .ok (.ireturn, 1) := by decide +kernel
theorem dX4_pop_43 : decode cX4_pop 43 = .ok (.aload_n 1, 1) := by decide +kernel
theorem dX4_pop_44 : decode cX4_pop 44 = .ok (.aload_n 3, 1) := by decide +kernel
theorem dX4_pop_45 : decode cX4_pop 45 = .ok (.invokevirtual 33, 3) := by decide +kernel
theorem dX4_pop_48 : decode cX4_pop 48 = .ok (.aload_n 0, 1) := by decide +kernel
theorem dX4_pop_49 : decode cX4_pop 49 = .ok (.iload_n 2, 1) := by decide +kernel
theorem dX4_pop_50 : decode cX4_pop 50 = .ok (.putfield 22, 3) := by decide +kernel
theorem dX4_pop_53 : decode cX4_pop 53 = .ok (.aload_n 0, 1) := by decide +kernel
theorem dX4_pop_54 : decode cX4_pop 54 = .ok (.dup, 1) := by decide +kernel
theorem dX4_pop_55 : decode cX4_pop 55 = .ok (.getfield 26, 3) := by decide +kernel
theorem dX4_pop_58 : decode cX4_pop 58 = .ok (.iconst 1, 1) := by decide +kernel
theorem dX4_pop_59 : decode cX4_pop 59 = .ok (.isub, 1) := by decide +kernel
theorem dX4_pop_60 : decode cX4_pop 60 = .ok (.putfield 26, 3) := by decide +kernel
theorem dX4_pop_63 : decode cX4_pop 63 = .ok (.iconst 1, 1) := by decide +kernel
theorem dX4_pop_64 : decode cX4_pop 64 = .ok (.ireturn, 1) := by decide +kernel
theorem dX5_init_0 : decode cX5_init 0 = .ok (.aload_n 0, 1) := by decide +kernel
theorem dX5_init_1 : decode cX5_init 1 = .ok (.invokespecial 3, 3) := by decide +kernel
theorem dX5_init_4 : decode cX5_init 4 = .ok (.aload_n 0, 1) := by decide +kernel
theorem dX5_init_5 : decode cX5_init 5 = .ok (.bipush 6, 2) := by decide +kernel
theorem dX5_init_7 : decode cX5_init 7 = .ok (.newarray .int, 2) := by decide +kernel
theorem dX5_init_9 : decode cX5_init 9 = .ok (.putfield 11, 3) := by decide +kernel
theorem dX5_init_12 : decode cX5_init 12 = .ok (.aload_n 0, 1) := by decide +kernel
theorem dX5_init_13 : decode cX5_init 13 = .ok (.bipush 6, 2) := by decide +kernel
theorem dX5_init_15 : decode cX5_init 15 = .ok (.newarray .int, 2) := by decide +kernel
theorem dX5_init_17 : decode cX5_init 17 = .ok (.putfield 15, 3) := by decide +kernel
theorem dX5_init_20 : decode cX5_init 20 = .ok (.aload_n 0, 1) := by decide +kernel
theorem dX5_init_21 : decode cX5_init 21 = .ok (.invokevirtual 18, 3) := by decide +kernel
theorem dX5_init_24 : decode cX5_init 24 = .ok (.return_, 1) := by decide +kernel
theorem dX5_clear_0 : decode cX5_clear 0 = .ok (.aload_n 0, 1) := by decide +kernel
theorem dX5_clear_1 : decode cX5_clear 1 = .ok (.iconst 0, 1) := by decide +kernel
theorem dX5_clear_2 : decode cX5_clear 2 = .ok (.putfield 21, 3) := by decide +kernel
theorem dX5_clear_5 : decode cX5_clear 5 = .ok (.return_, 1) := by decide +kernel
theorem dX5_add_0 : decode cX5_add 0 = .ok (.aload_n 0, 1) := by decide +kernel
theorem dX5_add_1 : decode cX5_add 1 = .ok (.getfield 21, 3) := by decide +kernel
theorem dX5_add_4 : decode cX5_add 4 = .ok (.bipush 6, 2) := by decide +kernel
theorem dX5_add_6 : decode cX5_add 6 = .ok (.if_icmp .lt 5, 3) := by decide +kernel
theorem dX5_add_9 : decode cX5_add 9 = .ok (.iconst 0, 1) := by decide +kernel
theorem dX5_add_10 : decode cX5_add 10 = .ok (.ireturn, 1) := by decide +kernel
theorem dX5_add_11 : decode cX5_add 11 = .ok (.aload_n 0, 1) := by decide +kernel
theorem dX5_add_12 : decode cX5_add 12 = .ok (.getfield 11, 3) := by decide +kernel
theorem dX5_add_15 : decode cX5_add 15 = .ok (.aload_n 0, 1) := by decide +kernel
theorem dX5_add_16 : decode cX5_add 16 = .ok (.getfield 21, 3) := by decide +kernel
theorem dX5_add_19 : decode cX5_add 19 = .ok (.iload_n 1, 1) := by decide +kernel
theorem dX5_add_20 : decode cX5_add 20 = .ok (.invokestatic 25, 3) := by decide +kernel
theorem dX5_add_23 : decode cX5_add 23 = .ok (.aload_n 0, 1) := by decide +kernel
theorem dX5_add_24 : decode cX5_add 24 = .ok (.getfield 15, 3) := by decide +kernel
theorem dX5_add_27 : decode cX5_add 27 = .ok (.aload_n 0, 1) := by decide +kernel
theorem dX5_add_28 : decode cX5_add 28 = .ok (.getfield 21, 3) := by decide +kernel
theorem dX5_add_31 : decode cX5_add 31 = .ok (.iload_n 2, 1) := by decide +kernel
theorem dX5_add_32 : decode cX5_add 32 = .ok (.invokestatic 25, 3) := by decide +kernel
theorem dX5_add_35 : decode cX5_add 35 = .ok (.aload_n 0, 1) := by decide +kernel
theorem dX5_add_36 : decode cX5_add 36 = .ok (.dup, 1) := by decide +kernel
theorem dX5_add_37 : decode cX5_add 37 = .ok (.getfield 21, 3) := by decide +kernel
theorem dX5_add_40 : decode cX5_add 40 = .ok (.iconst 1, 1) := by decide +kernel
theorem dX5_add_41 : decode cX5_add 41 = .ok (.iadd, 1) := by decide +kernel
theorem dX5_add_42 : decode cX5_add 42 = .ok (.putfield 21, 3) := by decide +kernel
theorem dX5_add_45 : decode cX5_add 45 = .ok (.iconst 1, 1) := by decide +kernel
theorem dX5_add_46 : decode cX5_add 46 = .ok (.ireturn, 1) := by decide +kernel
theorem dX5_kindsFor_0 : decode cX5_kindsFor 0 = .ok (.iconst 0, 1) := by decide +kernel
theorem dX5_kindsFor_1 : decode cX5_kindsFor 1 = .ok (.istore_n 2, 1) := by decide +kernel
theorem dX5_kindsFor_2 : decode cX5_kindsFor 2 = .ok (.iconst 0, 1) := by decide +kernel
theorem dX5_kindsFor_3 : decode cX5_kindsFor 3 = .ok (.istore_n 3, 1) := by decide +kernel
theorem dX5_kindsFor_4 : decode cX5_kindsFor 4 = .ok (.iload_n 3, 1) := by decide +kernel
theorem dX5_kindsFor_5 : decode cX5_kindsFor 5 = .ok (.iconst 4, 1) := by decide +kernel
theorem dX5_kindsFor_6 : decode cX5_kindsFor 6 = .ok (.if_icmp .ge 24, 3) := by decide +kernel
theorem dX5_kindsFor_9 : decode cX5_kindsFor 9 = .ok (.aload_n 0, 1) := by decide +kernel
theorem dX5_kindsFor_10 : decode cX5_kindsFor 10 = .ok (.iload_n 3, 1) := by decide +kernel
theorem dX5_kindsFor_11 : decode cX5_kindsFor 11 = .ok (.iload_n 1, 1) := by decide +kernel
theorem dX5_kindsFor_12 : decode cX5_kindsFor 12 = .ok (.invokevirtual 29, 3) := by decide +kernel
theorem dX5_kindsFor_15 : decode cX5_kindsFor 15 = .ok (.ifCond .eq 9, 3) := by decide +kernel
theorem dX5_kindsFor_18 : decode cX5_kindsFor 18 = .ok (.iload_n 2, 1) := by decide +kernel
theorem dX5_kindsFor_19 : decode cX5_kindsFor 19 = .ok (.iconst 1, 1) := by decide +kernel
theorem dX5_kindsFor_20 : decode cX5_kindsFor 20 = .ok (.iload_n 3, 1) := by decide +kernel
theorem dX5_kindsFor_21 : decode cX5_kindsFor 21 = .ok (.ishl, 1) := by decide +kernel
theorem dX5_kindsFor_22 : decode cX5_kindsFor 22 = .ok (.ior, 1) := by decide +kernel
theorem dX5_kindsFor_23 : decode cX5_kindsFor 23 = .ok (.istore_n 2, 1) := by decide +kernel
theorem dX5_kindsFor_24 : decode cX5_kindsFor 24 = .ok (.iinc 3 1, 3) := by decide +kernel
theorem dX5_kindsFor_27 : decode cX5_kindsFor 27 = .ok (.goto (-23), 3) := by decide +kernel
theorem dX5_kindsFor_30 : decode cX5_kindsFor 30 = .ok (.iload_n 2, 1) := by decide +kernel
theorem dX5_kindsFor_31 : decode cX5_kindsFor 31 = .ok (.ireturn, 1) := by decide +kernel
theorem dX5_givesFor_0 : decode cX5_givesFor 0 = .ok (.iconst 0, 1) := by decide +kernel
theorem dX5_givesFor_1 : decode cX5_givesFor 1 = .ok (.istore_n 2, 1) := by decide +kernel
theorem dX5_givesFor_2 : decode cX5_givesFor 2 = .ok (.iconst 1, 1) := by decide +kernel
theorem dX5_givesFor_3 : decode cX5_givesFor 3 = .ok (.istore_n 3, 1) := by decide +kernel
theorem dX5_givesFor_4 : decode cX5_givesFor 4 = .ok (.iload_n 3, 1) := by decide +kernel
theorem dX5_givesFor_5 : decode cX5_givesFor 5 = .ok (.bipush 9, 2) := by decide +kernel
theorem dX5_givesFor_7 : decode cX5_givesFor 7 = .ok (.if_icmp .gt 24, 3) := by decide +kernel
theorem dX5_givesFor_10 : decode cX5_givesFor 10 = .ok (.aload_n 0, 1) := by decide +kernel
theorem dX5_givesFor_11 : decode cX5_givesFor 11 = .ok (.iload_n 1, 1) := by decide +kernel
theorem dX5_givesFor_12 : decode cX5_givesFor 12 = .ok (.iload_n 3, 1) := by decide +kernel
theorem dX5_givesFor_13 : decode cX5_givesFor 13 = .ok (.invokevirtual 29, 3) := by decide +kernel
theorem dX5_givesFor_16 : decode cX5_givesFor 16 = .ok (.ifCond .eq 9, 3) := by decide +kernel
theorem dX5_givesFor_19 : decode cX5_givesFor 19 = .ok (.iload_n 2, 1) := by decide +kernel
theorem dX5_givesFor_20 : decode cX5_givesFor 20 = .ok (.iconst 1, 1) := by decide +kernel
theorem dX5_givesFor_21 : decode cX5_givesFor 21 = .ok (.iload_n 3, 1) := by decide +kernel
theorem dX5_givesFor_22 : decode cX5_givesFor 22 = .ok (.ishl, 1) := by decide +kernel
theorem dX5_givesFor_23 : decode cX5_givesFor 23 = .ok (.ior, 1) := by decide +kernel
theorem dX5_givesFor_24 : decode cX5_givesFor 24 = .ok (.istore_n 2, 1) := by decide +kernel
theorem dX5_givesFor_25 : decode cX5_givesFor 25 = .ok (.iinc 3 1, 3) := by decide +kernel
theorem dX5_givesFor_28 : decode cX5_givesFor 28 = .ok (.goto (-24), 3) := by decide +kernel
theorem dX5_givesFor_31 : decode cX5_givesFor 31 = .ok (.iload_n 2, 1) := by decide +kernel
theorem dX5_givesFor_32 : decode cX5_givesFor 32 = .ok (.ireturn, 1) := by decide +kernel
theorem dX5_explainedBy_0 : decode cX5_explainedBy 0 = .ok (.iconst 1, 1) := by decide +kernel
theorem dX5_explainedBy_1 : decode cX5_explainedBy 1 = .ok (.iload_n 1, 1) := by decide +kernel
theorem dX5_explainedBy_2 : decode cX5_explainedBy 2 = .ok (.iload_n 2, 1) := by decide +kernel
theorem dX5_explainedBy_3 : decode cX5_explainedBy 3 = .ok (.iconst 1, 1) := by decide +kernel
theorem dX5_explainedBy_4 : decode cX5_explainedBy 4 = .ok (.invokestatic 33, 3) := by decide +kernel
theorem dX5_explainedBy_7 : decode cX5_explainedBy 7 = .ok (.isub, 1) := by decide +kernel
theorem dX5_explainedBy_8 : decode cX5_explainedBy 8 = .ok (.istore_n 3, 1) := by decide +kernel
theorem dX5_explainedBy_9 : decode cX5_explainedBy 9 = .ok (.iconst 0, 1) := by decide +kernel
theorem dX5_explainedBy_10 : decode cX5_explainedBy 10 = .ok (.istore 4, 2) := by decide +kernel
theorem dX5_explainedBy_12 : decode cX5_explainedBy 12 = .ok (.iload 4, 2) := by decide +kernel
theorem dX5_explainedBy_14 : decode cX5_explainedBy 14 = .ok (.aload_n 0, 1) := by decide +kernel
theorem dX5_explainedBy_15 : decode cX5_explainedBy 15 = .ok (.getfield 21, 3) := by decide +kernel
theorem dX5_explainedBy_18 : decode cX5_explainedBy 18 = .ok (.if_icmp .ge 38, 3) := by decide +kernel
theorem dX5_explainedBy_21 : decode cX5_explainedBy 21 = .ok (.iconst 0, 1) := by decide +kernel
theorem dX5_explainedBy_22 : decode cX5_explainedBy 22 = .ok (.aload_n 0, 1) := by decide +kernel
theorem dX5_explainedBy_23 : decode cX5_explainedBy 23 = .ok (.getfield 11, 3) := by decide +kernel
theorem dX5_explainedBy_26 : decode cX5_explainedBy 26 = .ok (.iload 4, 2) := by decide +kernel
theorem dX5_explainedBy_28 : decode cX5_explainedBy 28 = .ok (.invokestatic 37, 3) := by decide +kernel
theorem dX5_explainedBy_31 : decode cX5_explainedBy 31 = .ok (.iload_n 3, 1) := by decide +kernel
theorem dX5_explainedBy_32 : decode cX5_explainedBy 32 = .ok (.iadd, 1) := by decide +kernel
theorem dX5_explainedBy_33 : decode cX5_explainedBy 33 = .ok (.invokestatic 41, 3) := by decide +kernel
theorem dX5_explainedBy_36 : decode cX5_explainedBy 36 = .ok (.aload_n 0, 1) := by decide +kernel
theorem dX5_explainedBy_37 : decode cX5_explainedBy 37 = .ok (.getfield 15, 3) := by decide +kernel
theorem dX5_explainedBy_40 : decode cX5_explainedBy 40 = .ok (.iload 4, 2) := by decide +kernel
theorem dX5_explainedBy_42 : decode cX5_explainedBy 42 = .ok (.invokestatic 37, 3) := by decide +kernel
theorem dX5_explainedBy_45 : decode cX5_explainedBy 45 = .ok (.if_icmp .eq 5, 3) := by decide +kernel
theorem dX5_explainedBy_48 : decode cX5_explainedBy 48 = .ok (.iconst 0, 1) := by decide +kernel
theorem dX5_explainedBy_49 : decode cX5_explainedBy 49 = .ok (.ireturn, 1) := by decide +kernel
theorem dX5_explainedBy_50 : decode cX5_explainedBy 50 = .ok (.iinc 4 1, 3) := by decide +kernel
theorem dX5_explainedBy_53 : decode cX5_explainedBy 53 = .ok (.goto (-41), 3) := by decide +kernel
theorem dX5_explainedBy_56 : decode cX5_explainedBy 56 = .ok (.iconst 1, 1) := by decide +kernel
theorem dX5_explainedBy_57 : decode cX5_explainedBy 57 = .ok (.ireturn, 1) := by decide +kernel
theorem dJ6_bitCount_0f7a4_0 : decode cJ6_bitCount_0f7a4 0 = .ok (.iload_n 0, 1) := by decide +kernel
theorem dJ6_bitCount_0f7a4_1 : decode cJ6_bitCount_0f7a4 1 = .ok (.iload_n 0, 1) := by decide +kernel
theorem dJ6_bitCount_0f7a4_2 : decode cJ6_bitCount_0f7a4 2 = .ok (.iconst 1, 1) := by decide +kernel
theorem dJ6_bitCount_0f7a4_3 : decode cJ6_bitCount_0f7a4 3 = .ok (.iushr, 1) := by decide +kernel
theorem dJ6_bitCount_0f7a4_4 : decode cJ6_bitCount_0f7a4 4 = .ok (.ldc_w 265, 3) := by decide +kernel
theorem dJ6_bitCount_0f7a4_7 : decode cJ6_bitCount_0f7a4 7 = .ok (.iand, 1) := by decide +kernel
theorem dJ6_bitCount_0f7a4_8 : decode cJ6_bitCount_0f7a4 8 = .ok (.isub, 1) := by decide +kernel
theorem dJ6_bitCount_0f7a4_9 : decode cJ6_bitCount_0f7a4 9 = .ok (.istore_n 0, 1) := by decide +kernel
theorem dJ6_bitCount_0f7a4_10 : decode cJ6_bitCount_0f7a4 10 = .ok (.iload_n 0, 1) := by decide +kernel
theorem dJ6_bitCount_0f7a4_11 : decode cJ6_bitCount_0f7a4 11 = .ok (.ldc_w 266, 3) := by decide +kernel
theorem dJ6_bitCount_0f7a4_14 : decode cJ6_bitCount_0f7a4 14 = .ok (.iand, 1) := by decide +kernel
theorem dJ6_bitCount_0f7a4_15 : decode cJ6_bitCount_0f7a4 15 = .ok (.iload_n 0, 1) := by decide +kernel
theorem dJ6_bitCount_0f7a4_16 : decode cJ6_bitCount_0f7a4 16 = .ok (.iconst 2, 1) := by decide +kernel
theorem dJ6_bitCount_0f7a4_17 : decode cJ6_bitCount_0f7a4 17 = .ok (.iushr, 1) := by decide +kernel
theorem dJ6_bitCount_0f7a4_18 : decode cJ6_bitCount_0f7a4 18 = .ok (.ldc_w 266, 3) := by decide +kernel
theorem dJ6_bitCount_0f7a4_21 : decode cJ6_bitCount_0f7a4 21 = .ok (.iand, 1) := by decide +kernel
theorem dJ6_bitCount_0f7a4_22 : decode cJ6_bitCount_0f7a4 22 = .ok (.iadd, 1) := by decide +kernel
theorem dJ6_bitCount_0f7a4_23 : decode cJ6_bitCount_0f7a4 23 = .ok (.istore_n 0, 1) := by decide +kernel
theorem dJ6_bitCount_0f7a4_24 : decode cJ6_bitCount_0f7a4 24 = .ok (.iload_n 0, 1) := by decide +kernel
theorem dJ6_bitCount_0f7a4_25 : decode cJ6_bitCount_0f7a4 25 = .ok (.iload_n 0, 1) := by decide +kernel
theorem dJ6_bitCount_0f7a4_26 : decode cJ6_bitCount_0f7a4 26 = .ok (.iconst 4, 1) := by decide +kernel
theorem dJ6_bitCount_0f7a4_27 : decode cJ6_bitCount_0f7a4 27 = .ok (.iushr, 1) := by decide +kernel
theorem dJ6_bitCount_0f7a4_28 : decode cJ6_bitCount_0f7a4 28 = .ok (.iadd, 1) := by decide +kernel
theorem dJ6_bitCount_0f7a4_29 : decode cJ6_bitCount_0f7a4 29 = .ok (.ldc_w 267, 3) := by decide +kernel
theorem dJ6_bitCount_0f7a4_32 : decode cJ6_bitCount_0f7a4 32 = .ok (.iand, 1) := by decide +kernel
theorem dJ6_bitCount_0f7a4_33 : decode cJ6_bitCount_0f7a4 33 = .ok (.istore_n 0, 1) := by decide +kernel
theorem dJ6_bitCount_0f7a4_34 : decode cJ6_bitCount_0f7a4 34 = .ok (.iload_n 0, 1) := by decide +kernel
theorem dJ6_bitCount_0f7a4_35 : decode cJ6_bitCount_0f7a4 35 = .ok (.iload_n 0, 1) := by decide +kernel
theorem dJ6_bitCount_0f7a4_36 : decode cJ6_bitCount_0f7a4 36 = .ok (.bipush 8, 2) := by decide +kernel
theorem dJ6_bitCount_0f7a4_38 : decode cJ6_bitCount_0f7a4 38 = .ok (.iushr, 1) := by decide +kernel
theorem dJ6_bitCount_0f7a4_39 : decode cJ6_bitCount_0f7a4 39 = .ok (.iadd, 1) := by decide +kernel
theorem dJ6_bitCount_0f7a4_40 : decode cJ6_bitCount_0f7a4 40 = .ok (.istore_n 0, 1) := by decide +kernel
theorem dJ6_bitCount_0f7a4_41 : decode cJ6_bitCount_0f7a4 41 = .ok (.iload_n 0, 1) := by decide +kernel
theorem dJ6_bitCount_0f7a4_42 : decode cJ6_bitCount_0f7a4 42 = .ok (.iload_n 0, 1) := by decide +kernel
theorem dJ6_bitCount_0f7a4_43 : decode cJ6_bitCount_0f7a4 43 = .ok (.bipush 16, 2) := by decide +kernel
theorem dJ6_bitCount_0f7a4_45 : decode cJ6_bitCount_0f7a4 45 = .ok (.iushr, 1) := by decide +kernel
theorem dJ6_bitCount_0f7a4_46 : decode cJ6_bitCount_0f7a4 46 = .ok (.iadd, 1) := by decide +kernel
theorem dJ6_bitCount_0f7a4_47 : decode cJ6_bitCount_0f7a4 47 = .ok (.istore_n 0, 1) := by decide +kernel
theorem dJ6_bitCount_0f7a4_48 : decode cJ6_bitCount_0f7a4 48 = .ok (.iload_n 0, 1) := by decide +kernel
theorem dJ6_bitCount_0f7a4_49 : decode cJ6_bitCount_0f7a4 49 = .ok (.bipush 63, 2) := by decide +kernel
theorem dJ6_bitCount_0f7a4_51 : decode cJ6_bitCount_0f7a4 51 = .ok (.iand, 1) := by decide +kernel
theorem dJ6_bitCount_0f7a4_52 : decode cJ6_bitCount_0f7a4 52 = .ok (.ireturn, 1) := by decide +kernel
theorem dJ9_max_7cf53_0 : decode cJ9_max_7cf53 0 = .ok (.iload_n 0, 1) := by decide +kernel
theorem dJ9_max_7cf53_1 : decode cJ9_max_7cf53 1 = .ok (.iload_n 1, 1) := by decide +kernel
theorem dJ9_max_7cf53_2 : decode cJ9_max_7cf53 2 = .ok (.if_icmp .lt 7, 3) := by decide +kernel
theorem dJ9_max_7cf53_5 : decode cJ9_max_7cf53 5 = .ok (.iload_n 0, 1) := by decide +kernel
theorem dJ9_max_7cf53_6 : decode cJ9_max_7cf53 6 = .ok (.goto 4, 3) := by decide +kernel
theorem dJ9_max_7cf53_9 : decode cJ9_max_7cf53 9 = .ok (.iload_n 1, 1) := by decide +kernel
theorem dJ9_max_7cf53_10 : decode cJ9_max_7cf53 10 = .ok (.ireturn, 1) := by decide +kernel
theorem dJ9_min_7cf53_0 : decode cJ9_min_7cf53 0 = .ok (.iload_n 0, 1) := by decide +kernel
theorem dJ9_min_7cf53_1 : decode cJ9_min_7cf53 1 = .ok (.iload_n 1, 1) := by decide +kernel
theorem dJ9_min_7cf53_2 : decode cJ9_min_7cf53 2 = .ok (.if_icmp .gt 7, 3) := by decide +kernel
theorem dJ9_min_7cf53_5 : decode cJ9_min_7cf53 5 = .ok (.iload_n 0, 1) := by decide +kernel
theorem dJ9_min_7cf53_6 : decode cJ9_min_7cf53 6 = .ok (.goto 4, 3) := by decide +kernel
theorem dJ9_min_7cf53_9 : decode cJ9_min_7cf53 9 = .ok (.iload_n 1, 1) := by decide +kernel
theorem dJ9_min_7cf53_10 : decode cJ9_min_7cf53 10 = .ok (.ireturn, 1) := by decide +kernel
end
section
theorem dX6_init_0 : decode cX6_init 0 = .ok (.aload_n 0, 1) := by decide +kernel
theorem dX6_init_1 : decode cX6_init 1 = .ok (.invokespecial 1, 3) := by decide +kernel
theorem dX6_init_4 : decode cX6_init 4 = .ok (.aload_n 0, 1) := by decide +kernel
theorem dX6_init_5 : decode cX6_init 5 = .ok (.sipush 200, 3) := by decide +kernel
theorem dX6_init_8 : decode cX6_init 8 = .ok (.newarray .char, 2) := by decide +kernel
theorem dX6_init_10 : decode cX6_init 10 = .ok (.putfield 9, 3) := by decide +kernel
theorem dX6_init_13 : decode cX6_init 13 = .ok (.aload_n 0, 1) := by decide +kernel
theorem dX6_init_14 : decode cX6_init 14 = .ok (.new 13, 3) := by decide +kernel
theorem dX6_init_17 : decode cX6_init 17 = .ok (.dup, 1) := by decide +kernel
theorem dX6_init_18 : decode cX6_init 18 = .ok (.invokespecial 15, 3) := by decide +kernel
theorem dX6_init_21 : decode cX6_init 21 = .ok (.putfield 16, 3) := by decide +kernel
theorem dX6_init_24 : decode cX6_init 24 = .ok (.aload_n 0, 1) := by decide +kernel
theorem dX6_init_25 : decode cX6_init 25 = .ok (.new 13, 3) := by decide +kernel
theorem dX6_init_28 : decode cX6_init 28 = .ok (.dup, 1) := by decide +kernel
theorem dX6_init_29 : decode cX6_init 29 = .ok (.invokespecial 15, 3) := by decide +kernel
theorem dX6_init_32 : decode cX6_init 32 = .ok (.putfield 20, 3) := by decide +kernel
theorem dX6_init_35 : decode cX6_init 35 = .ok (.aload_n 0, 1) := by decide +kernel
theorem dX6_init_36 : decode cX6_init 36 = .ok (.new 23, 3) := by decide +kernel
theorem dX6_init_39 : decode cX6_init 39 = .ok (.dup, 1) := by decide +kernel
theorem dX6_init_40 : decode cX6_init 40 = .ok (.invokespecial 25, 3) := by decide +kernel
theorem dX6_init_43 : decode cX6_init 43 = .ok (.putfield 26, 3) := by decide +kernel
theorem dX6_init_46 : decode cX6_init 46 = .ok (.aload_n 0, 1) := by decide +kernel
theorem dX6_init_47 : decode cX6_init 47 = .ok (.new 23, 3) := by decide +kernel
theorem dX6_init_50 : decode cX6_init 50 = .ok (.dup, 1) := by decide +kernel
theorem dX6_init_51 : decode cX6_init 51 = .ok (.invokespecial 25, 3) := by decide +kernel
theorem dX6_init_54 : decode cX6_init 54 = .ok (.putfield 30, 3) := by decide +kernel
theorem dX6_init_57 : decode cX6_init 57 = .ok (.aload_n 0, 1) := by decide +kernel
theorem dX6_init_58 : decode cX6_init 58 = .ok (.new 33, 3) := by decide +kernel
theorem dX6_init_61 : decode cX6_init 61 = .ok (.dup, 1) := by decide +kernel
theorem dX6_init_62 : decode cX6_init 62 = .ok (.bipush 8, 2) := by decide +kernel
theorem dX6_init_64 : decode cX6_init 64 = .ok (.invokespecial 35, 3) := by decide +kernel
theorem dX6_init_67 : decode cX6_init 67 = .ok (.putfield 38, 3) := by decide +kernel
theorem dX6_init_70 : decode cX6_init 70 = .ok (.aload_n 0, 1) := by decide +kernel
theorem dX6_init_71 : decode cX6_init 71 = .ok (.new 33, 3) := by decide +kernel
theorem dX6_init_74 : decode cX6_init 74 = .ok (.dup, 1) := by decide +kernel
theorem dX6_init_75 : decode cX6_init 75 = .ok (.iconst 2, 1) := by decide +kernel
theorem dX6_init_76 : decode cX6_init 76 = .ok (.invokespecial 35, 3) := by decide +kernel
theorem dX6_init_79 : decode cX6_init 79 = .ok (.putfield 42, 3) := by decide +kernel
theorem dX6_init_82 : decode cX6_init 82 = .ok (.aload_n 0, 1) := by decide +kernel
theorem dX6_init_83 : decode cX6_init 83 = .ok (.new 45, 3) := by decide +kernel
theorem dX6_init_86 : decode cX6_init 86 = .ok (.dup, 1) := by decide +kernel
theorem dX6_init_87 : decode cX6_init 87 = .ok (.invokespecial 47, 3) := by decide +kernel
theorem dX6_init_90 : decode cX6_init 90 = .ok (.putfield 48, 3) := by decide +kernel
theorem dX6_init_93 : decode cX6_init 93 = .ok (.aload_n 0, 1) := by decide +kernel
theorem dX6_init_94 : decode cX6_init 94 = .ok (.new 52, 3) := by decide +kernel
theorem dX6_init_97 : decode cX6_init 97 = .ok (.dup, 1) := by decide +kernel
theorem dX6_init_98 : decode cX6_init 98 = .ok (.invokespecial 54, 3) := by decide +kernel
theorem dX6_init_101 : decode cX6_init 101 = .ok (.putfield 55, 3) := by decide +kernel
theorem dX6_init_104 : decode cX6_init 104 = .ok (.aload_n 0, 1) := by decide +kernel
theorem dX6_init_105 : decode cX6_init 105 = .ok (.new 59, 3) := by decide +kernel
theorem dX6_init_108 : decode cX6_init 108 = .ok (.dup, 1) := by decide +kernel
theorem dX6_init_109 : decode cX6_init 109 = .ok (.invokespecial 61, 3) := by decide +kernel
theorem dX6_init_112 : decode cX6_init 112 = .ok (.putfield 62, 3) := by decide +kernel
theorem dX6_init_115 : decode cX6_init 115 = .ok (.aload_n 0, 1) := by decide +kernel
theorem dX6_init_116 : decode cX6_init 116 = .ok (.getfield 16, 3) := by decide +kernel
theorem dX6_init_119 : decode cX6_init 119 = .ok (.ldc 66, 2) := by decide +kernel
theorem dX6_init_121 : decode cX6_init 121 = .ok (.invokevirtual 68, 3) := by decide +kernel
theorem dX6_init_124 : decode cX6_init 124 = .ok (.ldc 66, 2) := by decide +kernel
theorem dX6_init_126 : decode cX6_init 126 = .ok (.invokevirtual 74, 3) := by decide +kernel
theorem dX6_init_129 : decode cX6_init 129 = .ok (.invokevirtual 78, 3) := by decide +kernel
theorem dX6_init_132 : decode cX6_init 132 = .ok (.pop, 1) := by decide +kernel
theorem dX6_init_133 : decode cX6_init 133 = .ok (.aload_n 0, 1) := by decide +kernel
theorem dX6_init_134 : decode cX6_init 134 = .ok (.getfield 26, 3) := by decide +kernel
theorem dX6_init_137 : decode cX6_init 137 = .ok (.aload_n 0, 1) := by decide +kernel
theorem dX6_init_138 : decode cX6_init 138 = .ok (.getfield 16, 3) := by decide +kernel
theorem dX6_init_141 : decode cX6_init 141 = .ok (.getfield 82, 3) := by decide +kernel
theorem dX6_init_144 : decode cX6_init 144 = .ok (.invokevirtual 86, 3) := by decide +kernel
theorem dX6_init_147 : decode cX6_init 147 = .ok (.return_, 1) := by decide +kernel
theorem dX6_write_0 : decode cX6_write 0 = .ok (.iload_n 1, 1) := by decide +kernel
theorem dX6_write_1 : decode cX6_write 1 = .ok (.bipush 32, 2) := by decide +kernel
theorem dX6_write_3 : decode cX6_write 3 = .ok (.bipush 126, 2) := by decide +kernel
theorem dX6_write_5 : decode cX6_write 5 = .ok (.invokestatic 89, 3) := by decide +kernel
theorem dX6_write_8 : decode cX6_write 8 = .ok (.ifCond .ne 5, 3) := by decide +kernel
theorem dX6_write_11 : decode cX6_write 11 = .ok (.iconst (-1), 1) := by decide +kernel
theorem dX6_write_12 : decode cX6_write 12 = .ok (.ireturn, 1) := by decide +kernel
theorem dX6_write_13 : decode cX6_write 13 = .ok (.aload_n 0, 1) := by decide +kernel
theorem dX6_write_14 : decode cX6_write 14 = .ok (.getfield 93, 3) := by decide +kernel
theorem dX6_write_17 : decode cX6_write 17 = .ok (.ifCond .lt 15, 3) := by decide +kernel
theorem dX6_write_20 : decode cX6_write 20 = .ok (.aload_n 0, 1) := by decide +kernel
theorem dX6_write_21 : decode cX6_write 21 = .ok (.getfield 93, 3) := by decide +kernel
theorem dX6_write_24 : decode cX6_write 24 = .ok (.aload_n 0, 1) := by decide +kernel
theorem dX6_write_25 : decode cX6_write 25 = .ok (.getfield 9, 3) := by decide +kernel
theorem dX6_write_28 : decode cX6_write 28 = .ok (.arraylength, 1) := by decide +kernel
theorem dX6_write_29 : decode cX6_write 29 = .ok (.if_icmp .lt 6, 3) := by decide +kernel
theorem dX6_write_32 : decode cX6_write 32 = .ok (.bipush (-3), 2) := by decide +kernel
theorem dX6_write_34 : decode cX6_write 34 = .ok (.ireturn, 1) := by decide +kernel
theorem dX6_write_35 : decode cX6_write 35 = .ok (.aload_n 0, 1) := by decide +kernel
theorem dX6_write_36 : decode cX6_write 36 = .ok (.getfield 9, 3) := by decide +kernel
theorem dX6_write_39 : decode cX6_write 39 = .ok (.aload_n 0, 1) := by decide +kernel
theorem dX6_write_40 : decode cX6_write 40 = .ok (.getfield 93, 3) := by decide +kernel
theorem dX6_write_43 : decode cX6_write 43 = .ok (.iload_n 1, 1) := by decide +kernel
theorem dX6_write_44 : decode cX6_write 44 = .ok (.i2c, 1) := by decide +kernel
theorem dX6_write_45 : decode cX6_write 45 = .ok (.castore, 1) := by decide +kernel
theorem dX6_write_46 : decode cX6_write 46 = .ok (.aload_n 0, 1) := by decide +kernel
theorem dX6_write_47 : decode cX6_write 47 = .ok (.dup, 1) := by decide +kernel
theorem dX6_write_48 : decode cX6_write 48 = .ok (.getfield 93, 3) := by decide +kernel
theorem dX6_write_51 : decode cX6_write 51 = .ok (.iconst 1, 1) := by decide +kernel
theorem dX6_write_52 : decode cX6_write 52 = .ok (.iadd, 1) := by decide +kernel
theorem dX6_write_53 : decode cX6_write 53 = .ok (.putfield 93, 3) := by decide +kernel
theorem dX6_write_56 : decode cX6_write 56 = .ok (.aload_n 0, 1) := by decide +kernel
theorem dX6_write_57 : decode cX6_write 57 = .ok (.getfield 93, 3) := by decide +kernel
theorem dX6_write_60 : decode cX6_write 60 = .ok (.ireturn, 1) := by decide +kernel
theorem dX6_wipe_0 : decode cX6_wipe 0 = .ok (.aload_n 0, 1) := by decide +kernel
theorem dX6_wipe_1 : decode cX6_wipe 1 = .ok (.getfield 93, 3) := by decide +kernel
theorem dX6_wipe_4 : decode cX6_wipe 4 = .ok (.istore_n 1, 1) := by decide +kernel
theorem dX6_wipe_5 : decode cX6_wipe 5 = .ok (.aload_n 0, 1) := by decide +kernel
theorem dX6_wipe_6 : decode cX6_wipe 6 = .ok (.iconst 0, 1) := by decide +kernel
theorem dX6_wipe_7 : decode cX6_wipe 7 = .ok (.putfield 93, 3) := by decide +kernel
theorem dX6_wipe_10 : decode cX6_wipe 10 = .ok (.iload_n 1, 1) := by decide +kernel
theorem dX6_wipe_11 : decode cX6_wipe 11 = .ok (.ireturn, 1) := by decide +kernel
theorem dX6_fault_0 : decode cX6_fault 0 = .ok (.aload_n 0, 1) := by decide +kernel
theorem dX6_fault_1 : decode cX6_fault 1 = .ok (.getfield 20, 3) := by decide +kernel
theorem dX6_fault_4 : decode cX6_fault 4 = .ok (.aload_n 0, 1) := by decide +kernel
theorem dX6_fault_5 : decode cX6_fault 5 = .ok (.getfield 9, 3) := by decide +kernel
theorem dX6_fault_8 : decode cX6_fault 8 = .ok (.aload_n 0, 1) := by decide +kernel
theorem dX6_fault_9 : decode cX6_fault 9 = .ok (.getfield 93, 3) := by decide +kernel
theorem dX6_fault_12 : decode cX6_fault 12 = .ok (.invokevirtual 78, 3) := by decide +kernel
theorem dX6_fault_15 : decode cX6_fault 15 = .ok (.ireturn, 1) := by decide +kernel
theorem dX6_lay_0 : decode cX6_lay 0 = .ok (.aload_n 0, 1) := by decide +kernel
theorem dX6_lay_1 : decode cX6_lay 1 = .ok (.getfield 20, 3) := by decide +kernel
theorem dX6_lay_4 : decode cX6_lay 4 = .ok (.aload_n 0, 1) := by decide +kernel
theorem dX6_lay_5 : decode cX6_lay 5 = .ok (.getfield 9, 3) := by decide +kernel
theorem dX6_lay_8 : decode cX6_lay 8 = .ok (.aload_n 0, 1) := by decide +kernel
theorem dX6_lay_9 : decode cX6_lay 9 = .ok (.getfield 93, 3) := by decide +kernel
theorem dX6_lay_12 : decode cX6_lay 12 = .ok (.invokevirtual 78, 3) := by decide +kernel
theorem dX6_lay_15 : decode cX6_lay 15 = .ok (.bipush (-4), 2) := by decide +kernel
theorem dX6_lay_17 : decode cX6_lay 17 = .ok (.if_icmp .ne 13, 3) := by decide +kernel
theorem dX6_lay_20 : decode cX6_lay 20 = .ok (.aload_n 0, 1) := by decide +kernel
theorem dX6_lay_21 : decode cX6_lay 21 = .ok (.getfield 20, 3) := by decide +kernel
theorem dX6_lay_24 : decode cX6_lay 24 = .ok (.getfield 96, 3) := by decide +kernel
theorem dX6_lay_27 : decode cX6_lay 27 = .ok (.ifCond .ne 6, 3) := by decide +kernel
theorem dX6_lay_30 : decode cX6_lay 30 = .ok (.bipush (-2), 2) := by decide +kernel
theorem dX6_lay_32 : decode cX6_lay 32 = .ok (.ireturn, 1) := by decide +kernel
theorem dX6_lay_33 : decode cX6_lay 33 = .ok (.aload_n 0, 1) := by decide +kernel
theorem dX6_lay_34 : decode cX6_lay 34 = .ok (.getfield 16, 3) := by decide +kernel
theorem dX6_lay_37 : decode cX6_lay 37 = .ok (.astore_n 1, 1) := by decide +kernel
theorem dX6_lay_38 : decode cX6_lay 38 = .ok (.aload_n 0, 1) := by decide +kernel
theorem dX6_lay_39 : decode cX6_lay 39 = .ok (.aload_n 0, 1) := by decide +kernel
theorem dX6_lay_40 : decode cX6_lay 40 = .ok (.getfield 20, 3) := by decide +kernel
theorem dX6_lay_43 : decode cX6_lay 43 = .ok (.putfield 16, 3) := by decide +kernel
theorem dX6_lay_46 : decode cX6_lay 46 = .ok (.aload_n 0, 1) := by decide +kernel
theorem dX6_lay_47 : decode cX6_lay 47 = .ok (.aload_n 1, 1) := by decide +kernel
theorem dX6_lay_48 : decode cX6_lay 48 = .ok (.putfield 20, 3) := by decide +kernel
theorem dX6_lay_51 : decode cX6_lay 51 = .ok (.aload_n 0, 1) := by decide +kernel
theorem dX6_lay_52 : decode cX6_lay 52 = .ok (.getfield 26, 3) := by decide +kernel
theorem dX6_lay_55 : decode cX6_lay 55 = .ok (.aload_n 0, 1) := by decide +kernel
theorem dX6_lay_56 : decode cX6_lay 56 = .ok (.getfield 16, 3) := by decide +kernel
theorem dX6_lay_59 : decode cX6_lay 59 = .ok (.getfield 82, 3) := by decide +kernel
theorem dX6_lay_62 : decode cX6_lay 62 = .ok (.invokevirtual 86, 3) := by decide +kernel
theorem dX6_lay_65 : decode cX6_lay 65 = .ok (.aload_n 0, 1) := by decide +kernel
theorem dX6_lay_66 : decode cX6_lay 66 = .ok (.getfield 38, 3) := by decide +kernel
theorem dX6_lay_69 : decode cX6_lay 69 = .ok (.invokevirtual 99, 3) := by decide +kernel
theorem dX6_lay_72 : decode cX6_lay 72 = .ok (.aload_n 0, 1) := by decide +kernel
theorem dX6_lay_73 : decode cX6_lay 73 = .ok (.getfield 42, 3) := by decide +kernel
theorem dX6_lay_76 : decode cX6_lay 76 = .ok (.invokevirtual 99, 3) := by decide +kernel
theorem dX6_lay_79 : decode cX6_lay 79 = .ok (.aload_n 0, 1) := by decide +kernel
theorem dX6_lay_80 : decode cX6_lay 80 = .ok (.getfield 48, 3) := by decide +kernel
theorem dX6_lay_83 : decode cX6_lay 83 = .ok (.invokevirtual 101, 3) := by decide +kernel
theorem dX6_lay_86 : decode cX6_lay 86 = .ok (.aload_n 0, 1) := by decide +kernel
theorem dX6_lay_87 : decode cX6_lay 87 = .ok (.getfield 16, 3) := by decide +kernel
theorem dX6_lay_90 : decode cX6_lay 90 = .ok (.getfield 96, 3) := by decide +kernel
theorem dX6_lay_93 : decode cX6_lay 93 = .ok (.ireturn, 1) := by decide +kernel
theorem dX6_strip_0 : decode cX6_strip 0 = .ok (.iload_n 1, 1) := by decide +kernel
theorem dX6_strip_1 : decode cX6_strip 1 = .ok (.iconst 0, 1) := by decide +kernel
theorem dX6_strip_2 : decode cX6_strip 2 = .ok (.aload_n 0, 1) := by decide +kernel
theorem dX6_strip_3 : decode cX6_strip 3 = .ok (.getfield 16, 3) := by decide +kernel
theorem dX6_strip_6 : decode cX6_strip 6 = .ok (.getfield 96, 3) := by decide +kernel
theorem dX6_strip_9 : decode cX6_strip 9 = .ok (.iconst 1, 1) := by decide +kernel
theorem dX6_strip_10 : decode cX6_strip 10 = .ok (.isub, 1) := by decide +kernel
theorem dX6_strip_11 : decode cX6_strip 11 = .ok (.invokestatic 89, 3) := by decide +kernel
theorem dX6_strip_14 : decode cX6_strip 14 = .ok (.ifCond .ne 5, 3) := by decide +kernel
theorem dX6_strip_17 : decode cX6_strip 17 = .ok (.iconst (-1), 1) := by decide +kernel
theorem dX6_strip_18 : decode cX6_strip 18 = .ok (.ireturn, 1) := by decide +kernel
theorem dX6_strip_19 : decode cX6_strip 19 = .ok (.iload_n 2, 1) := by decide +kernel
theorem dX6_strip_20 : decode cX6_strip 20 = .ok (.tableswitch 89 0 4 #[36, 45, 54, 63, 72], 36) := by decide +kernel
theorem dX6_strip_56 : decode cX6_strip 56 = .ok (.aload_n 0, 1) := by decide +kernel
theorem dX6_strip_57 : decode cX6_strip 57 = .ok (.getfield 16, 3) := by decide +kernel
theorem dX6_strip_60 : decode cX6_strip 60 = .ok (.iload_n 1, 1) := by decide +kernel
theorem dX6_strip_61 : decode cX6_strip 61 = .ok (.invokevirtual 102, 3) := by decide +kernel
theorem dX6_strip_64 : decode cX6_strip 64 = .ok (.ireturn, 1) := by decide +kernel
theorem dX6_strip_65 : decode cX6_strip 65 = .ok (.aload_n 0, 1) := by decide +kernel
theorem dX6_strip_66 : decode cX6_strip 66 = .ok (.getfield 16, 3) := by decide +kernel
theorem dX6_strip_69 : decode cX6_strip 69 = .ok (.iload_n 1, 1) := by decide +kernel
theorem dX6_strip_70 : decode cX6_strip 70 = .ok (.invokevirtual 106, 3) := by decide +kernel
theorem dX6_strip_73 : decode cX6_strip 73 = .ok (.ireturn, 1) := by decide +kernel
theorem dX6_strip_74 : decode cX6_strip 74 = .ok (.aload_n 0, 1) := by decide +kernel
theorem dX6_strip_75 : decode cX6_strip 75 = .ok (.getfield 16, 3) := by decide +kernel
theorem dX6_strip_78 : decode cX6_strip 78 = .ok (.iload_n 1, 1) := by decide +kernel
theorem dX6_strip_79 : decode cX6_strip 79 = .ok (.invokevirtual 109, 3) := by decide +kernel
theorem dX6_strip_82 : decode cX6_strip 82 = .ok (.ireturn, 1) := by decide +kernel
theorem dX6_strip_83 : decode cX6_strip 83 = .ok (.aload_n 0, 1) := by decide +kernel
theorem dX6_strip_84 : decode cX6_strip 84 = .ok (.getfield 26, 3) := by decide +kernel
theorem dX6_strip_87 : decode cX6_strip 87 = .ok (.iload_n 1, 1) := by decide +kernel
theorem dX6_strip_88 : decode cX6_strip 88 = .ok (.invokevirtual 112, 3) := by decide +kernel
theorem dX6_strip_91 : decode cX6_strip 91 = .ok (.ireturn, 1) := by decide +kernel
theorem dX6_strip_92 : decode cX6_strip 92 = .ok (.aload_n 0, 1) := by decide +kernel
theorem dX6_strip_93 : decode cX6_strip 93 = .ok (.getfield 26, 3) := by decide +kernel
theorem dX6_strip_96 : decode cX6_strip 96 = .ok (.iload_n 1, 1) := by decide +kernel
theorem dX6_strip_97 : decode cX6_strip 97 = .ok (.invokevirtual 115, 3) := by decide +kernel
theorem dX6_strip_100 : decode cX6_strip 100 = .ok (.ifCond .eq 7, 3) := by decide +kernel
theorem dX6_strip_103 : decode cX6_strip 103 = .ok (.iconst 1, 1) := by decide +kernel
theorem dX6_strip_104 : decode cX6_strip 104 = .ok (.goto 4, 3) := by decide +kernel
theorem dX6_strip_107 : decode cX6_strip 107 = .ok (.iconst 0, 1) := by decide +kernel
theorem dX6_strip_108 : decode cX6_strip 108 = .ok (.ireturn, 1) := by decide +kernel
theorem dX6_strip_109 : decode cX6_strip 109 = .ok (.iconst (-1), 1) := by decide +kernel
theorem dX6_strip_110 : decode cX6_strip 110 = .ok (.ireturn, 1) := by decide +kernel
theorem dX6_wall_0 : decode cX6_wall 0 = .ok (.iload_n 1, 1) := by decide +kernel
theorem dX6_wall_1 : decode cX6_wall 1 = .ok (.invokestatic 119, 3) := by decide +kernel
theorem dX6_wall_4 : decode cX6_wall 4 = .ok (.ifCond .ne 5, 3) := by decide +kernel
theorem dX6_wall_7 : decode cX6_wall 7 = .ok (.iconst (-1), 1) := by decide +kernel
theorem dX6_wall_8 : decode cX6_wall 8 = .ok (.ireturn, 1) := by decide +kernel
theorem dX6_wall_9 : decode cX6_wall 9 = .ok (.iload_n 2, 1) := by decide +kernel
theorem dX6_wall_10 : decode cX6_wall 10 = .ok (.tableswitch 90 0 3 #[30, 39, 56, 73], 30) := by decide +kernel
theorem dX6_wall_40 : decode cX6_wall 40 = .ok (.aload_n 0, 1) := by decide +kernel
theorem dX6_wall_41 : decode cX6_wall 41 = .ok (.getfield 26, 3) := by decide +kernel
theorem dX6_wall_44 : decode cX6_wall 44 = .ok (.iload_n 1, 1) := by decide +kernel
theorem dX6_wall_45 : decode cX6_wall 45 = .ok (.invokevirtual 122, 3) := by decide +kernel
theorem dX6_wall_48 : decode cX6_wall 48 = .ok (.ireturn, 1) := by decide +kernel
theorem dX6_wall_49 : decode cX6_wall 49 = .ok (.aload_n 0, 1) := by decide +kernel
theorem dX6_wall_50 : decode cX6_wall 50 = .ok (.getfield 26, 3) := by decide +kernel
theorem dX6_wall_53 : decode cX6_wall 53 = .ok (.iload_n 1, 1) := by decide +kernel
theorem dX6_wall_54 : decode cX6_wall 54 = .ok (.invokevirtual 125, 3) := by decide +kernel
theorem dX6_wall_57 : decode cX6_wall 57 = .ok (.ifCond .eq 7, 3) := by decide +kernel
theorem dX6_wall_60 : decode cX6_wall 60 = .ok (.iconst 1, 1) := by decide +kernel
theorem dX6_wall_61 : decode cX6_wall 61 = .ok (.goto 4, 3) := by decide +kernel
theorem dX6_wall_64 : decode cX6_wall 64 = .ok (.iconst 0, 1) := by decide +kernel
theorem dX6_wall_65 : decode cX6_wall 65 = .ok (.ireturn, 1) := by decide +kernel
theorem dX6_wall_66 : decode cX6_wall 66 = .ok (.aload_n 0, 1) := by decide +kernel
theorem dX6_wall_67 : decode cX6_wall 67 = .ok (.getfield 26, 3) := by decide +kernel
theorem dX6_wall_70 : decode cX6_wall 70 = .ok (.iload_n 1, 1) := by decide +kernel
theorem dX6_wall_71 : decode cX6_wall 71 = .ok (.invokevirtual 128, 3) := by decide +kernel
theorem dX6_wall_74 : decode cX6_wall 74 = .ok (.ifCond .eq 7, 3) := by decide +kernel
theorem dX6_wall_77 : decode cX6_wall 77 = .ok (.iconst 1, 1) := by decide +kernel
theorem dX6_wall_78 : decode cX6_wall 78 = .ok (.goto 4, 3) := by decide +kernel
theorem dX6_wall_81 : decode cX6_wall 81 = .ok (.iconst 0, 1) := by decide +kernel
theorem dX6_wall_82 : decode cX6_wall 82 = .ok (.ireturn, 1) := by decide +kernel
theorem dX6_wall_83 : decode cX6_wall 83 = .ok (.aload_n 0, 1) := by decide +kernel
theorem dX6_wall_84 : decode cX6_wall 84 = .ok (.getfield 26, 3) := by decide +kernel
theorem dX6_wall_87 : decode cX6_wall 87 = .ok (.iload_n 1, 1) := by decide +kernel
theorem dX6_wall_88 : decode cX6_wall 88 = .ok (.invokevirtual 131, 3) := by decide +kernel
theorem dX6_wall_91 : decode cX6_wall 91 = .ok (.ifCond .eq 7, 3) := by decide +kernel
theorem dX6_wall_94 : decode cX6_wall 94 = .ok (.iconst 1, 1) := by decide +kernel
theorem dX6_wall_95 : decode cX6_wall 95 = .ok (.goto 4, 3) := by decide +kernel
theorem dX6_wall_98 : decode cX6_wall 98 = .ok (.iconst 0, 1) := by decide +kernel
theorem dX6_wall_99 : decode cX6_wall 99 = .ok (.ireturn, 1) := by decide +kernel
theorem dX6_wall_100 : decode cX6_wall 100 = .ok (.iconst (-1), 1) := by decide +kernel
theorem dX6_wall_101 : decode cX6_wall 101 = .ok (.ireturn, 1) := by decide +kernel
theorem dX6_damp_0 : decode cX6_damp 0 = .ok (.iload_n 1, 1) := by decide +kernel
theorem dX6_damp_1 : decode cX6_damp 1 = .ok (.iconst 0, 1) := by decide +kernel
theorem dX6_damp_2 : decode cX6_damp 2 = .ok (.sipush 999, 3) := by decide +kernel
theorem dX6_damp_5 : decode cX6_damp 5 = .ok (.invokestatic 89, 3) := by decide +kernel
theorem dX6_damp_8 : decode cX6_damp 8 = .ok (.ifCond .eq 14, 3) := by decide +kernel
theorem dX6_damp_11 : decode cX6_damp 11 = .ok (.aload_n 0, 1) := by decide +kernel
theorem dX6_damp_12 : decode cX6_damp 12 = .ok (.getfield 16, 3) := by decide +kernel
theorem dX6_damp_15 : decode cX6_damp 15 = .ok (.iload_n 1, 1) := by decide +kernel
theorem dX6_damp_16 : decode cX6_damp 16 = .ok (.invokevirtual 134, 3) := by decide +kernel
theorem dX6_damp_19 : decode cX6_damp 19 = .ok (.goto 4, 3) := by decide +kernel
theorem dX6_damp_22 : decode cX6_damp 22 = .ok (.iconst (-1), 1) := by decide +kernel
theorem dX6_damp_23 : decode cX6_damp 23 = .ok (.ireturn, 1) := by decide +kernel
theorem dX6_cut_0 : decode cX6_cut 0 = .ok (.iload_n 1, 1) := by decide +kernel
theorem dX6_cut_1 : decode cX6_cut 1 = .ok (.iconst 1, 1) := by decide +kernel
theorem dX6_cut_2 : decode cX6_cut 2 = .ok (.bipush 6, 2) := by decide +kernel
theorem dX6_cut_4 : decode cX6_cut 4 = .ok (.invokestatic 89, 3) := by decide +kernel
theorem dX6_cut_7 : decode cX6_cut 7 = .ok (.ifCond .ne 5, 3) := by decide +kernel
theorem dX6_cut_10 : decode cX6_cut 10 = .ok (.iconst (-1), 1) := by decide +kernel
theorem dX6_cut_11 : decode cX6_cut 11 = .ok (.ireturn, 1) := by decide +kernel
theorem dX6_cut_12 : decode cX6_cut 12 = .ok (.aload_n 0, 1) := by decide +kernel
theorem dX6_cut_13 : decode cX6_cut 13 = .ok (.getfield 26, 3) := by decide +kernel
theorem dX6_cut_16 : decode cX6_cut 16 = .ok (.aload_n 0, 1) := by decide +kernel
theorem dX6_cut_17 : decode cX6_cut 17 = .ok (.getfield 16, 3) := by decide +kernel
theorem dX6_cut_20 : decode cX6_cut 20 = .ok (.iload_n 1, 1) := by decide +kernel
theorem dX6_cut_21 : decode cX6_cut 21 = .ok (.invokevirtual 137, 3) := by decide +kernel
theorem dX6_cut_24 : decode cX6_cut 24 = .ok (.ifCond .ne 6, 3) := by decide +kernel
theorem dX6_cut_27 : decode cX6_cut 27 = .ok (.bipush (-2), 2) := by decide +kernel
theorem dX6_cut_29 : decode cX6_cut 29 = .ok (.ireturn, 1) := by decide +kernel
theorem dX6_cut_30 : decode cX6_cut 30 = .ok (.aload_n 0, 1) := by decide +kernel
theorem dX6_cut_31 : decode cX6_cut 31 = .ok (.getfield 38, 3) := by decide +kernel
theorem dX6_cut_34 : decode cX6_cut 34 = .ok (.aload_n 0, 1) := by decide +kernel
theorem dX6_cut_35 : decode cX6_cut 35 = .ok (.getfield 26, 3) := by decide +kernel
theorem dX6_cut_38 : decode cX6_cut 38 = .ok (.invokevirtual 141, 3) := by decide +kernel
theorem dX6_cut_41 : decode cX6_cut 41 = .ok (.aload_n 0, 1) := by decide +kernel
theorem dX6_cut_42 : decode cX6_cut 42 = .ok (.getfield 26, 3) := by decide +kernel
theorem dX6_cut_45 : decode cX6_cut 45 = .ok (.aload_n 0, 1) := by decide +kernel
theorem dX6_cut_46 : decode cX6_cut 46 = .ok (.getfield 16, 3) := by decide +kernel
theorem dX6_cut_49 : decode cX6_cut 49 = .ok (.iload_n 1, 1) := by decide +kernel
theorem dX6_cut_50 : decode cX6_cut 50 = .ok (.invokevirtual 145, 3) := by decide +kernel
theorem dX6_cut_53 : decode cX6_cut 53 = .ok (.ireturn, 1) := by decide +kernel
theorem dX6_hook_0 : decode cX6_hook 0 = .ok (.iload_n 1, 1) := by decide +kernel
theorem dX6_hook_1 : decode cX6_hook 1 = .ok (.invokestatic 119, 3) := by decide +kernel
theorem dX6_hook_4 : decode cX6_hook 4 = .ok (.ifCond .eq 13, 3) := by decide +kernel
theorem dX6_hook_7 : decode cX6_hook 7 = .ok (.iload_n 2, 1) := by decide +kernel
theorem dX6_hook_8 : decode cX6_hook 8 = .ok (.iconst 0, 1) := by decide +kernel
theorem dX6_hook_9 : decode cX6_hook 9 = .ok (.bipush 20, 2) := by decide +kernel
theorem dX6_hook_11 : decode cX6_hook 11 = .ok (.invokestatic 89, 3) := by decide +kernel
theorem dX6_hook_14 : decode cX6_hook 14 = .ok (.ifCond .ne 5, 3) := by decide +kernel
theorem dX6_hook_17 : decode cX6_hook 17 = .ok (.iconst (-1), 1) := by decide +kernel
theorem dX6_hook_18 : decode cX6_hook 18 = .ok (.ireturn, 1) := by decide +kernel
theorem dX6_hook_19 : decode cX6_hook 19 = .ok (.aload_n 0, 1) := by decide +kernel
theorem dX6_hook_20 : decode cX6_hook 20 = .ok (.getfield 26, 3) := by decide +kernel
theorem dX6_hook_23 : decode cX6_hook 23 = .ok (.aload_n 0, 1) := by decide +kernel
theorem dX6_hook_24 : decode cX6_hook 24 = .ok (.getfield 16, 3) := by decide +kernel
theorem dX6_hook_27 : decode cX6_hook 27 = .ok (.invokevirtual 149, 3) := by decide +kernel
theorem dX6_hook_30 : decode cX6_hook 30 = .ok (.ifCond .eq 14, 3) := by decide +kernel
theorem dX6_hook_33 : decode cX6_hook 33 = .ok (.aload_n 0, 1) := by decide +kernel
theorem dX6_hook_34 : decode cX6_hook 34 = .ok (.getfield 26, 3) := by decide +kernel
theorem dX6_hook_37 : decode cX6_hook 37 = .ok (.iload_n 1, 1) := by decide +kernel
theorem dX6_hook_38 : decode cX6_hook 38 = .ok (.invokevirtual 153, 3) := by decide +kernel
theorem dX6_hook_41 : decode cX6_hook 41 = .ok (.ifCond .ne 6, 3) := by decide +kernel
theorem dX6_hook_44 : decode cX6_hook 44 = .ok (.bipush (-2), 2) := by decide +kernel
theorem dX6_hook_46 : decode cX6_hook 46 = .ok (.ireturn, 1) := by decide +kernel
theorem dX6_hook_47 : decode cX6_hook 47 = .ok (.aload_n 0, 1) := by decide +kernel
theorem dX6_hook_48 : decode cX6_hook 48 = .ok (.getfield 38, 3) := by decide +kernel
theorem dX6_hook_51 : decode cX6_hook 51 = .ok (.aload_n 0, 1) := by decide +kernel
theorem dX6_hook_52 : decode cX6_hook 52 = .ok (.getfield 26, 3) := by decide +kernel
theorem dX6_hook_55 : decode cX6_hook 55 = .ok (.invokevirtual 141, 3) := by decide +kernel
theorem dX6_hook_58 : decode cX6_hook 58 = .ok (.aload_n 0, 1) := by decide +kernel
theorem dX6_hook_59 : decode cX6_hook 59 = .ok (.getfield 26, 3) := by decide +kernel
theorem dX6_hook_62 : decode cX6_hook 62 = .ok (.aload_n 0, 1) := by decide +kernel
theorem dX6_hook_63 : decode cX6_hook 63 = .ok (.getfield 16, 3) := by decide +kernel
theorem dX6_hook_66 : decode cX6_hook 66 = .ok (.iload_n 1, 1) := by decide +kernel
theorem dX6_hook_67 : decode cX6_hook 67 = .ok (.iload_n 2, 1) := by decide +kernel
theorem dX6_hook_68 : decode cX6_hook 68 = .ok (.invokevirtual 156, 3) := by decide +kernel
theorem dX6_hook_71 : decode cX6_hook 71 = .ok (.ireturn, 1) := by decide +kernel
theorem dX6_letGo_0 : decode cX6_letGo 0 = .ok (.iload_n 1, 1) := by decide +kernel
theorem dX6_letGo_1 : decode cX6_letGo 1 = .ok (.invokestatic 119, 3) := by decide +kernel
theorem dX6_letGo_4 : decode cX6_letGo 4 = .ok (.ifCond .ne 5, 3) := by decide +kernel
theorem dX6_letGo_7 : decode cX6_letGo 7 = .ok (.iconst (-1), 1) := by decide +kernel
theorem dX6_letGo_8 : decode cX6_letGo 8 = .ok (.ireturn, 1) := by decide +kernel
theorem dX6_letGo_9 : decode cX6_letGo 9 = .ok (.aload_n 0, 1) := by decide +kernel
theorem dX6_letGo_10 : decode cX6_letGo 10 = .ok (.getfield 26, 3) := by decide +kernel
theorem dX6_letGo_13 : decode cX6_letGo 13 = .ok (.iload_n 1, 1) := by decide +kernel
theorem dX6_letGo_14 : decode cX6_letGo 14 = .ok (.invokevirtual 125, 3) := by decide +kernel
theorem dX6_letGo_17 : decode cX6_letGo 17 = .ok (.ifCond .ne 6, 3) := by decide +kernel
theorem dX6_letGo_20 : decode cX6_letGo 20 = .ok (.bipush (-2), 2) := by decide +kernel
theorem dX6_letGo_22 : decode cX6_letGo 22 = .ok (.ireturn, 1) := by decide +kernel
theorem dX6_letGo_23 : decode cX6_letGo 23 = .ok (.aload_n 0, 1) := by decide +kernel
theorem dX6_letGo_24 : decode cX6_letGo 24 = .ok (.getfield 38, 3) := by decide +kernel
theorem dX6_letGo_27 : decode cX6_letGo 27 = .ok (.aload_n 0, 1) := by decide +kernel
theorem dX6_letGo_28 : decode cX6_letGo 28 = .ok (.getfield 26, 3) := by decide +kernel
theorem dX6_letGo_31 : decode cX6_letGo 31 = .ok (.invokevirtual 141, 3) := by decide +kernel
theorem dX6_letGo_34 : decode cX6_letGo 34 = .ok (.aload_n 0, 1) := by decide +kernel
theorem dX6_letGo_35 : decode cX6_letGo 35 = .ok (.getfield 26, 3) := by decide +kernel
theorem dX6_letGo_38 : decode cX6_letGo 38 = .ok (.iload_n 1, 1) := by decide +kernel
theorem dX6_letGo_39 : decode cX6_letGo 39 = .ok (.invokevirtual 160, 3) := by decide +kernel
theorem dX6_letGo_42 : decode cX6_letGo 42 = .ok (.ireturn, 1) := by decide +kernel
theorem dX6_pass_0 : decode cX6_pass 0 = .ok (.iload_n 1, 1) := by decide +kernel
theorem dX6_pass_1 : decode cX6_pass 1 = .ok (.iconst 1, 1) := by decide +kernel
theorem dX6_pass_2 : decode cX6_pass 2 = .ok (.bipush 60, 2) := by decide +kernel
theorem dX6_pass_4 : decode cX6_pass 4 = .ok (.invokestatic 89, 3) := by decide +kernel
theorem dX6_pass_7 : decode cX6_pass 7 = .ok (.ifCond .ne 5, 3) := by decide +kernel
theorem dX6_pass_10 : decode cX6_pass 10 = .ok (.iconst (-1), 1) := by decide +kernel
theorem dX6_pass_11 : decode cX6_pass 11 = .ok (.ireturn, 1) := by decide +kernel
theorem dX6_pass_12 : decode cX6_pass 12 = .ok (.aload_n 0, 1) := by decide +kernel
theorem dX6_pass_13 : decode cX6_pass 13 = .ok (.getfield 26, 3) := by decide +kernel
theorem dX6_pass_16 : decode cX6_pass 16 = .ok (.getfield 163, 3) := by decide +kernel
theorem dX6_pass_19 : decode cX6_pass 19 = .ok (.iload_n 1, 1) := by decide +kernel
theorem dX6_pass_20 : decode cX6_pass 20 = .ok (.iadd, 1) := by decide +kernel
theorem dX6_pass_21 : decode cX6_pass 21 = .ok (.sipush 999, 3) := by decide +kernel
theorem dX6_pass_24 : decode cX6_pass 24 = .ok (.if_icmp .le 6, 3) := by decide +kernel
theorem dX6_pass_27 : decode cX6_pass 27 = .ok (.bipush (-2), 2) := by decide +kernel
theorem dX6_pass_29 : decode cX6_pass 29 = .ok (.ireturn, 1) := by decide +kernel
theorem dX6_pass_30 : decode cX6_pass 30 = .ok (.aload_n 0, 1) := by decide +kernel
theorem dX6_pass_31 : decode cX6_pass 31 = .ok (.getfield 38, 3) := by decide +kernel
theorem dX6_pass_34 : decode cX6_pass 34 = .ok (.aload_n 0, 1) := by decide +kernel
theorem dX6_pass_35 : decode cX6_pass 35 = .ok (.getfield 26, 3) := by decide +kernel
theorem dX6_pass_38 : decode cX6_pass 38 = .ok (.invokevirtual 141, 3) := by decide +kernel
theorem dX6_pass_41 : decode cX6_pass 41 = .ok (.iconst 0, 1) := by decide +kernel
theorem dX6_pass_42 : decode cX6_pass 42 = .ok (.istore_n 2, 1) := by decide +kernel
theorem dX6_pass_43 : decode cX6_pass 43 = .ok (.iload_n 2, 1) := by decide +kernel
theorem dX6_pass_44 : decode cX6_pass 44 = .ok (.iload_n 1, 1) := by decide +kernel
theorem dX6_pass_45 : decode cX6_pass 45 = .ok (.if_icmp .ge 20, 3) := by decide +kernel
theorem dX6_pass_48 : decode cX6_pass 48 = .ok (.aload_n 0, 1) := by decide +kernel
theorem dX6_pass_49 : decode cX6_pass 49 = .ok (.getfield 26, 3) := by decide +kernel
theorem dX6_pass_52 : decode cX6_pass 52 = .ok (.aload_n 0, 1) := by decide +kernel
theorem dX6_pass_53 : decode cX6_pass 53 = .ok (.getfield 16, 3) := by decide +kernel
theorem dX6_pass_56 : decode cX6_pass 56 = .ok (.invokevirtual 166, 3) := by decide +kernel
theorem dX6_pass_59 : decode cX6_pass 59 = .ok (.iinc 2 1, 3) := by decide +kernel
theorem dX6_pass_62 : decode cX6_pass 62 = .ok (.goto (-19), 3) := by decide +kernel
theorem dX6_pass_65 : decode cX6_pass 65 = .ok (.aload_n 0, 1) := by decide +kernel
theorem dX6_pass_66 : decode cX6_pass 66 = .ok (.getfield 26, 3) := by decide +kernel
theorem dX6_pass_69 : decode cX6_pass 69 = .ok (.getfield 163, 3) := by decide +kernel
theorem dX6_pass_72 : decode cX6_pass 72 = .ok (.ireturn, 1) := by decide +kernel
theorem dX6_undo_0 : decode cX6_undo 0 = .ok (.aload_n 0, 1) := by decide +kernel
theorem dX6_undo_1 : decode cX6_undo 1 = .ok (.getfield 38, 3) := by decide +kernel
theorem dX6_undo_4 : decode cX6_undo 4 = .ok (.aload_n 0, 1) := by decide +kernel
theorem dX6_undo_5 : decode cX6_undo 5 = .ok (.getfield 26, 3) := by decide +kernel
theorem dX6_undo_8 : decode cX6_undo 8 = .ok (.invokevirtual 170, 3) := by decide +kernel
theorem dX6_undo_11 : decode cX6_undo 11 = .ok (.ifCond .eq 13, 3) := by decide +kernel
theorem dX6_undo_14 : decode cX6_undo 14 = .ok (.aload_n 0, 1) := by decide +kernel
theorem dX6_undo_15 : decode cX6_undo 15 = .ok (.getfield 38, 3) := by decide +kernel
theorem dX6_undo_18 : decode cX6_undo 18 = .ok (.getfield 174, 3) := by decide +kernel
theorem dX6_undo_21 : decode cX6_undo 21 = .ok (.goto 5, 3) := by decide +kernel
theorem dX6_undo_24 : decode cX6_undo 24 = .ok (.bipush (-2), 2) := by decide +kernel
theorem dX6_undo_26 : decode cX6_undo 26 = .ok (.ireturn, 1) := by decide +kernel
theorem dX6_plan_0 : decode cX6_plan 0 = .ok (.iload_n 1, 1) := by decide +kernel
theorem dX6_plan_1 : decode cX6_plan 1 = .ok (.bipush (-2), 2) := by decide +kernel
theorem dX6_plan_3 : decode cX6_plan 3 = .ok (.if_icmp .ge 5, 3) := by decide +kernel
theorem dX6_plan_6 : decode cX6_plan 6 = .ok (.iconst (-1), 1) := by decide +kernel
theorem dX6_plan_7 : decode cX6_plan 7 = .ok (.ireturn, 1) := by decide +kernel
theorem dX6_plan_8 : decode cX6_plan 8 = .ok (.aload_n 0, 1) := by decide +kernel
theorem dX6_plan_9 : decode cX6_plan 9 = .ok (.getfield 55, 3) := by decide +kernel
theorem dX6_plan_12 : decode cX6_plan 12 = .ok (.aload_n 0, 1) := by decide +kernel
theorem dX6_plan_13 : decode cX6_plan 13 = .ok (.getfield 16, 3) := by decide +kernel
theorem dX6_plan_16 : decode cX6_plan 16 = .ok (.aload_n 0, 1) := by decide +kernel
theorem dX6_plan_17 : decode cX6_plan 17 = .ok (.getfield 26, 3) := by decide +kernel
theorem dX6_plan_20 : decode cX6_plan 20 = .ok (.invokevirtual 177, 3) := by decide +kernel
theorem dX6_plan_23 : decode cX6_plan 23 = .ok (.aload_n 0, 1) := by decide +kernel
theorem dX6_plan_24 : decode cX6_plan 24 = .ok (.getfield 55, 3) := by decide +kernel
theorem dX6_plan_27 : decode cX6_plan 27 = .ok (.getfield 181, 3) := by decide +kernel
theorem dX6_plan_30 : decode cX6_plan 30 = .ok (.ifCond .ne 6, 3) := by decide +kernel
theorem dX6_plan_33 : decode cX6_plan 33 = .ok (.bipush (-4), 2) := by decide +kernel
theorem dX6_plan_35 : decode cX6_plan 35 = .ok (.ireturn, 1) := by decide +kernel
theorem dX6_plan_36 : decode cX6_plan 36 = .ok (.iload_n 1, 1) := by decide +kernel
theorem dX6_plan_37 : decode cX6_plan 37 = .ok (.lookupswitch 43 #[(-2, 35), (-1, 27)], 27) := by decide +kernel
theorem dX6_plan_64 : decode cX6_plan 64 = .ok (.aload_n 0, 1) := by decide +kernel
theorem dX6_plan_65 : decode cX6_plan 65 = .ok (.getfield 55, 3) := by decide +kernel
theorem dX6_plan_68 : decode cX6_plan 68 = .ok (.getfield 185, 3) := by decide +kernel
theorem dX6_plan_71 : decode cX6_plan 71 = .ok (.ireturn, 1) := by decide +kernel
theorem dX6_plan_72 : decode cX6_plan 72 = .ok (.aload_n 0, 1) := by decide +kernel
theorem dX6_plan_73 : decode cX6_plan 73 = .ok (.getfield 55, 3) := by decide +kernel
theorem dX6_plan_76 : decode cX6_plan 76 = .ok (.getfield 188, 3) := by decide +kernel
theorem dX6_plan_79 : decode cX6_plan 79 = .ok (.ireturn, 1) := by decide +kernel
theorem dX6_plan_80 : decode cX6_plan 80 = .ok (.aload_n 0, 1) := by decide +kernel
theorem dX6_plan_81 : decode cX6_plan 81 = .ok (.getfield 55, 3) := by decide +kernel
theorem dX6_plan_84 : decode cX6_plan 84 = .ok (.iload_n 1, 1) := by decide +kernel
theorem dX6_plan_85 : decode cX6_plan 85 = .ok (.invokevirtual 191, 3) := by decide +kernel
theorem dX6_plan_88 : decode cX6_plan 88 = .ok (.ireturn, 1) := by decide +kernel
theorem dX6_order_0 : decode cX6_order 0 = .ok (.iload_n 1, 1) := by decide +kernel
theorem dX6_order_1 : decode cX6_order 1 = .ok (.iconst (-1), 1) := by decide +kernel
theorem dX6_order_2 : decode cX6_order 2 = .ok (.iconst 3, 1) := by decide +kernel
theorem dX6_order_3 : decode cX6_order 3 = .ok (.invokestatic 89, 3) := by decide +kernel
theorem dX6_order_6 : decode cX6_order 6 = .ok (.ifCond .ne 5, 3) := by decide +kernel
theorem dX6_order_9 : decode cX6_order 9 = .ok (.iconst (-1), 1) := by decide +kernel
theorem dX6_order_10 : decode cX6_order 10 = .ok (.ireturn, 1) := by decide +kernel
theorem dX6_order_11 : decode cX6_order 11 = .ok (.aload_n 0, 1) := by decide +kernel
theorem dX6_order_12 : decode cX6_order 12 = .ok (.getfield 62, 3) := by decide +kernel
theorem dX6_order_15 : decode cX6_order 15 = .ok (.aload_n 0, 1) := by decide +kernel
theorem dX6_order_16 : decode cX6_order 16 = .ok (.getfield 16, 3) := by decide +kernel
theorem dX6_order_19 : decode cX6_order 19 = .ok (.aload_n 0, 1) := by decide +kernel
theorem dX6_order_20 : decode cX6_order 20 = .ok (.getfield 26, 3) := by decide +kernel
theorem dX6_order_23 : decode cX6_order 23 = .ok (.aload_n 0, 1) := by decide +kernel
theorem dX6_order_24 : decode cX6_order 24 = .ok (.getfield 30, 3) := by decide +kernel
theorem dX6_order_27 : decode cX6_order 27 = .ok (.invokevirtual 194, 3) := by decide +kernel
theorem dX6_order_30 : decode cX6_order 30 = .ok (.iload_n 1, 1) := by decide +kernel
theorem dX6_order_31 : decode cX6_order 31 = .ok (.iconst (-1), 1) := by decide +kernel
theorem dX6_order_32 : decode cX6_order 32 = .ok (.if_icmp .ne 13, 3) := by decide +kernel
theorem dX6_order_35 : decode cX6_order 35 = .ok (.aload_n 0, 1) := by decide +kernel
theorem dX6_order_36 : decode cX6_order 36 = .ok (.getfield 62, 3) := by decide +kernel
theorem dX6_order_39 : decode cX6_order 39 = .ok (.getfield 197, 3) := by decide +kernel
theorem dX6_order_42 : decode cX6_order 42 = .ok (.goto 11, 3) := by decide +kernel
theorem dX6_order_45 : decode cX6_order 45 = .ok (.aload_n 0, 1) := by decide +kernel
theorem dX6_order_46 : decode cX6_order 46 = .ok (.getfield 62, 3) := by decide +kernel
theorem dX6_order_49 : decode cX6_order 49 = .ok (.iload_n 1, 1) := by decide +kernel
theorem dX6_order_50 : decode cX6_order 50 = .ok (.invokevirtual 200, 3) := by decide +kernel
theorem dX6_order_53 : decode cX6_order 53 = .ok (.ireturn, 1) := by decide +kernel
theorem dX6_kickFor_0 : decode cX6_kickFor 0 = .ok (.iload_n 1, 1) := by decide +kernel
theorem dX6_kickFor_1 : decode cX6_kickFor 1 = .ok (.invokestatic 119, 3) := by decide +kernel
theorem dX6_kickFor_4 : decode cX6_kickFor 4 = .ok (.ifCond .eq 13, 3) := by decide +kernel
theorem dX6_kickFor_7 : decode cX6_kickFor 7 = .ok (.iload_n 2, 1) := by decide +kernel
theorem dX6_kickFor_8 : decode cX6_kickFor 8 = .ok (.iconst 0, 1) := by decide +kernel
theorem dX6_kickFor_9 : decode cX6_kickFor 9 = .ok (.bipush 30, 2) := by decide +kernel
theorem dX6_kickFor_11 : decode cX6_kickFor 11 = .ok (.invokestatic 89, 3) := by decide +kernel
theorem dX6_kickFor_14 : decode cX6_kickFor 14 = .ok (.ifCond .ne 5, 3) := by decide +kernel
theorem dX6_kickFor_17 : decode cX6_kickFor 17 = .ok (.iconst (-1), 1) := by decide +kernel
theorem dX6_kickFor_18 : decode cX6_kickFor 18 = .ok (.ireturn, 1) := by decide +kernel
theorem dX6_kickFor_19 : decode cX6_kickFor 19 = .ok (.aload_n 0, 1) := by decide +kernel
theorem dX6_kickFor_20 : decode cX6_kickFor 20 = .ok (.getfield 26, 3) := by decide +kernel
theorem dX6_kickFor_23 : decode cX6_kickFor 23 = .ok (.iload_n 1, 1) := by decide +kernel
theorem dX6_kickFor_24 : decode cX6_kickFor 24 = .ok (.invokevirtual 153, 3) := by decide +kernel
theorem dX6_kickFor_27 : decode cX6_kickFor 27 = .ok (.ifCond .eq 19, 3) := by decide +kernel
theorem dX6_kickFor_30 : decode cX6_kickFor 30 = .ok (.aload_n 0, 1) := by decide +kernel
theorem dX6_kickFor_31 : decode cX6_kickFor 31 = .ok (.getfield 26, 3) := by decide +kernel
theorem dX6_kickFor_34 : decode cX6_kickFor 34 = .ok (.aload_n 0, 1) := by decide +kernel
theorem dX6_kickFor_35 : decode cX6_kickFor 35 = .ok (.getfield 16, 3) := by decide +kernel
theorem dX6_kickFor_38 : decode cX6_kickFor 38 = .ok (.iload_n 1, 1) := by decide +kernel
theorem dX6_kickFor_39 : decode cX6_kickFor 39 = .ok (.iload_n 2, 1) := by decide +kernel
theorem dX6_kickFor_40 : decode cX6_kickFor 40 = .ok (.invokevirtual 203, 3) := by decide +kernel
theorem dX6_kickFor_43 : decode cX6_kickFor 43 = .ok (.goto 5, 3) := by decide +kernel
theorem dX6_kickFor_46 : decode cX6_kickFor 46 = .ok (.bipush (-4), 2) := by decide +kernel
theorem dX6_kickFor_48 : decode cX6_kickFor 48 = .ok (.ireturn, 1) := by decide +kernel
theorem dX6_waves_0 : decode cX6_waves 0 = .ok (.bipush 61, 2) := by decide +kernel
theorem dX6_waves_2 : decode cX6_waves 2 = .ok (.istore_n 1, 1) := by decide +kernel
theorem dX6_waves_3 : decode cX6_waves 3 = .ok (.iconst 0, 1) := by decide +kernel
theorem dX6_waves_4 : decode cX6_waves 4 = .ok (.istore_n 2, 1) := by decide +kernel
theorem dX6_waves_5 : decode cX6_waves 5 = .ok (.iload_n 2, 1) := by decide +kernel
theorem dX6_waves_6 : decode cX6_waves 6 = .ok (.iconst 4, 1) := by decide +kernel
theorem dX6_waves_7 : decode cX6_waves 7 = .ok (.if_icmp .ge 37, 3) := by decide +kernel
theorem dX6_waves_10 : decode cX6_waves 10 = .ok (.aload_n 0, 1) := by decide +kernel
theorem dX6_waves_11 : decode cX6_waves 11 = .ok (.getfield 26, 3) := by decide +kernel
theorem dX6_waves_14 : decode cX6_waves 14 = .ok (.iload_n 2, 1) := by decide +kernel
theorem dX6_waves_15 : decode cX6_waves 15 = .ok (.invokevirtual 125, 3) := by decide +kernel
theorem dX6_waves_18 : decode cX6_waves 18 = .ok (.ifCond .eq 20, 3) := by decide +kernel
theorem dX6_waves_21 : decode cX6_waves 21 = .ok (.iload_n 1, 1) := by decide +kernel
theorem dX6_waves_22 : decode cX6_waves 22 = .ok (.aload_n 0, 1) := by decide +kernel
theorem dX6_waves_23 : decode cX6_waves 23 = .ok (.getfield 26, 3) := by decide +kernel
theorem dX6_waves_26 : decode cX6_waves 26 = .ok (.aload_n 0, 1) := by decide +kernel
theorem dX6_waves_27 : decode cX6_waves 27 = .ok (.getfield 16, 3) := by decide +kernel
theorem dX6_waves_30 : decode cX6_waves 30 = .ok (.iload_n 2, 1) := by decide +kernel
theorem dX6_waves_31 : decode cX6_waves 31 = .ok (.invokevirtual 206, 3) := by decide +kernel
theorem dX6_waves_34 : decode cX6_waves 34 = .ok (.invokestatic 209, 3) := by decide +kernel
theorem dX6_waves_37 : decode cX6_waves 37 = .ok (.istore_n 1, 1) := by decide +kernel
theorem dX6_waves_38 : decode cX6_waves 38 = .ok (.iinc 2 1, 3) := by decide +kernel
theorem dX6_waves_41 : decode cX6_waves 41 = .ok (.goto (-36), 3) := by decide +kernel
theorem dX6_waves_44 : decode cX6_waves 44 = .ok (.iload_n 1, 1) := by decide +kernel
theorem dX6_waves_45 : decode cX6_waves 45 = .ok (.bipush 60, 2) := by decide +kernel
theorem dX6_waves_47 : decode cX6_waves 47 = .ok (.if_icmp .le 8, 3) := by decide +kernel
theorem dX6_waves_50 : decode cX6_waves 50 = .ok (.bipush (-4), 2) := by decide +kernel
theorem dX6_waves_52 : decode cX6_waves 52 = .ok (.goto 4, 3) := by decide +kernel
theorem dX6_waves_55 : decode cX6_waves 55 = .ok (.iload_n 1, 1) := by decide +kernel
theorem dX6_waves_56 : decode cX6_waves 56 = .ok (.ireturn, 1) := by decide +kernel
theorem dX6_longest_0 : decode cX6_longest 0 = .ok (.bipush (-4), 2) := by decide +kernel
theorem dX6_longest_2 : decode cX6_longest 2 = .ok (.istore_n 1, 1) := by decide +kernel
theorem dX6_longest_3 : decode cX6_longest 3 = .ok (.iconst (-1), 1) := by decide +kernel
theorem dX6_longest_4 : decode cX6_longest 4 = .ok (.istore_n 2, 1) := by decide +kernel
theorem dX6_longest_5 : decode cX6_longest 5 = .ok (.iconst 0, 1) := by decide +kernel
theorem dX6_longest_6 : decode cX6_longest 6 = .ok (.istore_n 3, 1) := by decide +kernel
theorem dX6_longest_7 : decode cX6_longest 7 = .ok (.iload_n 3, 1) := by decide +kernel
theorem dX6_longest_8 : decode cX6_longest 8 = .ok (.iconst 4, 1) := by decide +kernel
theorem dX6_longest_9 : decode cX6_longest 9 = .ok (.if_icmp .ge 51, 3) := by decide +kernel
theorem dX6_longest_12 : decode cX6_longest 12 = .ok (.aload_n 0, 1) := by decide +kernel
theorem dX6_longest_13 : decode cX6_longest 13 = .ok (.getfield 26, 3) := by decide +kernel
theorem dX6_longest_16 : decode cX6_longest 16 = .ok (.iload_n 3, 1) := by decide +kernel
theorem dX6_longest_17 : decode cX6_longest 17 = .ok (.invokevirtual 125, 3) := by decide +kernel
theorem dX6_longest_20 : decode cX6_longest 20 = .ok (.ifCond .eq 34, 3) := by decide +kernel
theorem dX6_longest_23 : decode cX6_longest 23 = .ok (.aload_n 0, 1) := by decide +kernel
theorem dX6_longest_24 : decode cX6_longest 24 = .ok (.getfield 26, 3) := by decide +kernel
theorem dX6_longest_27 : decode cX6_longest 27 = .ok (.aload_n 0, 1) := by decide +kernel
theorem dX6_longest_28 : decode cX6_longest 28 = .ok (.getfield 16, 3) := by decide +kernel
theorem dX6_longest_31 : decode cX6_longest 31 = .ok (.iload_n 3, 1) := by decide +kernel
theorem dX6_longest_32 : decode cX6_longest 32 = .ok (.invokevirtual 206, 3) := by decide +kernel
theorem dX6_longest_35 : decode cX6_longest 35 = .ok (.iload_n 2, 1) := by decide +kernel
theorem dX6_longest_36 : decode cX6_longest 36 = .ok (.if_icmp .le 18, 3) := by decide +kernel
theorem dX6_longest_39 : decode cX6_longest 39 = .ok (.iload_n 3, 1) := by decide +kernel
theorem dX6_longest_40 : decode cX6_longest 40 = .ok (.istore_n 1, 1) := by decide +kernel
theorem dX6_longest_41 : decode cX6_longest 41 = .ok (.aload_n 0, 1) := by decide +kernel
theorem dX6_longest_42 : decode cX6_longest 42 = .ok (.getfield 26, 3) := by decide +kernel
theorem dX6_longest_45 : decode cX6_longest 45 = .ok (.aload_n 0, 1) := by decide +kernel
theorem dX6_longest_46 : decode cX6_longest 46 = .ok (.getfield 16, 3) := by decide +kernel
theorem dX6_longest_49 : decode cX6_longest 49 = .ok (.iload_n 3, 1) := by decide +kernel
theorem dX6_longest_50 : decode cX6_longest 50 = .ok (.invokevirtual 206, 3) := by decide +kernel
theorem dX6_longest_53 : decode cX6_longest 53 = .ok (.istore_n 2, 1) := by decide +kernel
theorem dX6_longest_54 : decode cX6_longest 54 = .ok (.iinc 3 1, 3) := by decide +kernel
theorem dX6_longest_57 : decode cX6_longest 57 = .ok (.goto (-50), 3) := by decide +kernel
theorem dX6_longest_60 : decode cX6_longest 60 = .ok (.iload_n 1, 1) := by decide +kernel
theorem dX6_longest_61 : decode cX6_longest 61 = .ok (.ireturn, 1) := by decide +kernel
theorem dX6_seen_0 : decode cX6_seen 0 = .ok (.iload_n 1, 1) := by decide +kernel
theorem dX6_seen_1 : decode cX6_seen 1 = .ok (.iconst 0, 1) := by decide +kernel
theorem dX6_seen_2 : decode cX6_seen 2 = .ok (.bipush 20, 2) := by decide +kernel
theorem dX6_seen_4 : decode cX6_seen 4 = .ok (.invokestatic 89, 3) := by decide +kernel
theorem dX6_seen_7 : decode cX6_seen 7 = .ok (.ifCond .eq 13, 3) := by decide +kernel
theorem dX6_seen_10 : decode cX6_seen 10 = .ok (.iload_n 2, 1) := by decide +kernel
theorem dX6_seen_11 : decode cX6_seen 11 = .ok (.iconst 0, 1) := by decide +kernel
theorem dX6_seen_12 : decode cX6_seen 12 = .ok (.bipush 40, 2) := by decide +kernel
theorem dX6_seen_14 : decode cX6_seen 14 = .ok (.invokestatic 89, 3) := by decide +kernel
theorem dX6_seen_17 : decode cX6_seen 17 = .ok (.ifCond .ne 5, 3) := by decide +kernel
theorem dX6_seen_20 : decode cX6_seen 20 = .ok (.iconst (-1), 1) := by decide +kernel
theorem dX6_seen_21 : decode cX6_seen 21 = .ok (.ireturn, 1) := by decide +kernel
theorem dX6_seen_22 : decode cX6_seen 22 = .ok (.aload_n 0, 1) := by decide +kernel
theorem dX6_seen_23 : decode cX6_seen 23 = .ok (.getfield 48, 3) := by decide +kernel
theorem dX6_seen_26 : decode cX6_seen 26 = .ok (.iload_n 1, 1) := by decide +kernel
theorem dX6_seen_27 : decode cX6_seen 27 = .ok (.iload_n 2, 1) := by decide +kernel
theorem dX6_seen_28 : decode cX6_seen 28 = .ok (.invokevirtual 215, 3) := by decide +kernel
theorem dX6_seen_31 : decode cX6_seen 31 = .ok (.ifCond .eq 13, 3) := by decide +kernel
theorem dX6_seen_34 : decode cX6_seen 34 = .ok (.aload_n 0, 1) := by decide +kernel
theorem dX6_seen_35 : decode cX6_seen 35 = .ok (.getfield 48, 3) := by decide +kernel
theorem dX6_seen_38 : decode cX6_seen 38 = .ok (.getfield 219, 3) := by decide +kernel
theorem dX6_seen_41 : decode cX6_seen 41 = .ok (.goto 5, 3) := by decide +kernel
theorem dX6_seen_44 : decode cX6_seen 44 = .ok (.bipush (-3), 2) := by decide +kernel
theorem dX6_seen_46 : decode cX6_seen 46 = .ok (.ireturn, 1) := by decide +kernel
theorem dX6_forget_0 : decode cX6_forget 0 = .ok (.aload_n 0, 1) := by decide +kernel
theorem dX6_forget_1 : decode cX6_forget 1 = .ok (.getfield 48, 3) := by decide +kernel
theorem dX6_forget_4 : decode cX6_forget 4 = .ok (.getfield 219, 3) := by decide +kernel
theorem dX6_forget_7 : decode cX6_forget 7 = .ok (.istore_n 1, 1) := by decide +kernel
theorem dX6_forget_8 : decode cX6_forget 8 = .ok (.aload_n 0, 1) := by decide +kernel
theorem dX6_forget_9 : decode cX6_forget 9 = .ok (.getfield 48, 3) := by decide +kernel
theorem dX6_forget_12 : decode cX6_forget 12 = .ok (.invokevirtual 101, 3) := by decide +kernel
theorem dX6_forget_15 : decode cX6_forget 15 = .ok (.iload_n 1, 1) := by decide +kernel
theorem dX6_forget_16 : decode cX6_forget 16 = .ok (.ireturn, 1) := by decide +kernel
theorem dX6_may_0 : decode cX6_may 0 = .ok (.iload_n 1, 1) := by decide +kernel
theorem dX6_may_1 : decode cX6_may 1 = .ok (.lookupswitch 57 #[(0, 27), (1, 42)], 27) := by decide +kernel
theorem dX6_may_28 : decode cX6_may 28 = .ok (.aload_n 0, 1) := by decide +kernel
theorem dX6_may_29 : decode cX6_may 29 = .ok (.getfield 48, 3) := by decide +kernel
theorem dX6_may_32 : decode cX6_may 32 = .ok (.aload_n 0, 1) := by decide +kernel
theorem dX6_may_33 : decode cX6_may 33 = .ok (.getfield 16, 3) := by decide +kernel
theorem dX6_may_36 : decode cX6_may 36 = .ok (.getfield 220, 3) := by decide +kernel
theorem dX6_may_39 : decode cX6_may 39 = .ok (.invokevirtual 223, 3) := by decide +kernel
theorem dX6_may_42 : decode cX6_may 42 = .ok (.ireturn, 1) := by decide +kernel
theorem dX6_may_43 : decode cX6_may 43 = .ok (.aload_n 0, 1) := by decide +kernel
theorem dX6_may_44 : decode cX6_may 44 = .ok (.getfield 48, 3) := by decide +kernel
theorem dX6_may_47 : decode cX6_may 47 = .ok (.aload_n 0, 1) := by decide +kernel
theorem dX6_may_48 : decode cX6_may 48 = .ok (.getfield 16, 3) := by decide +kernel
theorem dX6_may_51 : decode cX6_may 51 = .ok (.getfield 226, 3) := by decide +kernel
theorem dX6_may_54 : decode cX6_may 54 = .ok (.invokevirtual 229, 3) := by decide +kernel
theorem dX6_may_57 : decode cX6_may 57 = .ok (.ireturn, 1) := by decide +kernel
theorem dX6_may_58 : decode cX6_may 58 = .ok (.iconst (-1), 1) := by decide +kernel
theorem dX6_may_59 : decode cX6_may 59 = .ok (.ireturn, 1) := by decide +kernel
theorem dX6_hall_0 : decode cX6_hall 0 = .ok (.iload_n 1, 1) := by decide +kernel
theorem dX6_hall_1 : decode cX6_hall 1 = .ok (.iconst 1, 1) := by decide +kernel
theorem dX6_hall_2 : decode cX6_hall 2 = .ok (.bipush 6, 2) := by decide +kernel
theorem dX6_hall_4 : decode cX6_hall 4 = .ok (.invokestatic 89, 3) := by decide +kernel
theorem dX6_hall_7 : decode cX6_hall 7 = .ok (.ifCond .eq 13, 3) := by decide +kernel
theorem dX6_hall_10 : decode cX6_hall 10 = .ok (.iload_n 2, 1) := by decide +kernel
theorem dX6_hall_11 : decode cX6_hall 11 = .ok (.iconst 1, 1) := by decide +kernel
theorem dX6_hall_12 : decode cX6_hall 12 = .ok (.bipush 40, 2) := by decide +kernel
theorem dX6_hall_14 : decode cX6_hall 14 = .ok (.invokestatic 89, 3) := by decide +kernel
theorem dX6_hall_17 : decode cX6_hall 17 = .ok (.ifCond .ne 5, 3) := by decide +kernel
theorem dX6_hall_20 : decode cX6_hall 20 = .ok (.iconst (-1), 1) := by decide +kernel
theorem dX6_hall_21 : decode cX6_hall 21 = .ok (.ireturn, 1) := by decide +kernel
theorem dX6_hall_22 : decode cX6_hall 22 = .ok (.aload_n 0, 1) := by decide +kernel
theorem dX6_hall_23 : decode cX6_hall 23 = .ok (.getfield 26, 3) := by decide +kernel
theorem dX6_hall_26 : decode cX6_hall 26 = .ok (.aload_n 0, 1) := by decide +kernel
theorem dX6_hall_27 : decode cX6_hall 27 = .ok (.getfield 16, 3) := by decide +kernel
theorem dX6_hall_30 : decode cX6_hall 30 = .ok (.iload_n 1, 1) := by decide +kernel
theorem dX6_hall_31 : decode cX6_hall 31 = .ok (.iload_n 2, 1) := by decide +kernel
theorem dX6_hall_32 : decode cX6_hall 32 = .ok (.invokevirtual 232, 3) := by decide +kernel
theorem dX6_hall_35 : decode cX6_hall 35 = .ok (.ifCond .eq 5, 3) := by decide +kernel
theorem dX6_hall_38 : decode cX6_hall 38 = .ok (.iconst 1, 1) := by decide +kernel
theorem dX6_hall_39 : decode cX6_hall 39 = .ok (.ireturn, 1) := by decide +kernel
theorem dX6_hall_40 : decode cX6_hall 40 = .ok (.aload_n 0, 1) := by decide +kernel
theorem dX6_hall_41 : decode cX6_hall 41 = .ok (.getfield 16, 3) := by decide +kernel
theorem dX6_hall_44 : decode cX6_hall 44 = .ok (.getfield 236, 3) := by decide +kernel
theorem dX6_hall_47 : decode cX6_hall 47 = .ok (.iload_n 1, 1) := by decide +kernel
theorem dX6_hall_48 : decode cX6_hall 48 = .ok (.if_icmp .lt 18, 3) := by decide +kernel
theorem dX6_hall_51 : decode cX6_hall 51 = .ok (.aload_n 0, 1) := by decide +kernel
theorem dX6_hall_52 : decode cX6_hall 52 = .ok (.getfield 26, 3) := by decide +kernel
theorem dX6_hall_55 : decode cX6_hall 55 = .ok (.getfield 239, 3) := by decide +kernel
theorem dX6_hall_58 : decode cX6_hall 58 = .ok (.iload_n 2, 1) := by decide +kernel
theorem dX6_hall_59 : decode cX6_hall 59 = .ok (.if_icmp .lt 7, 3) := by decide +kernel
theorem dX6_hall_62 : decode cX6_hall 62 = .ok (.iconst 2, 1) := by decide +kernel
theorem dX6_hall_63 : decode cX6_hall 63 = .ok (.goto 4, 3) := by decide +kernel
theorem dX6_hall_66 : decode cX6_hall 66 = .ok (.iconst 0, 1) := by decide +kernel
theorem dX6_hall_67 : decode cX6_hall 67 = .ok (.ireturn, 1) := by decide +kernel
theorem dX6_left_0 : decode cX6_left 0 = .ok (.iload_n 1, 1) := by decide +kernel
theorem dX6_left_1 : decode cX6_left 1 = .ok (.lookupswitch 55 #[(0, 27), (1, 39)], 27) := by decide +kernel
theorem dX6_left_28 : decode cX6_left 28 = .ok (.aload_n 0, 1) := by decide +kernel
theorem dX6_left_29 : decode cX6_left 29 = .ok (.getfield 26, 3) := by decide +kernel
theorem dX6_left_32 : decode cX6_left 32 = .ok (.aload_n 0, 1) := by decide +kernel
theorem dX6_left_33 : decode cX6_left 33 = .ok (.getfield 16, 3) := by decide +kernel
theorem dX6_left_36 : decode cX6_left 36 = .ok (.invokevirtual 242, 3) := by decide +kernel
theorem dX6_left_39 : decode cX6_left 39 = .ok (.ireturn, 1) := by decide +kernel
theorem dX6_left_40 : decode cX6_left 40 = .ok (.aload_n 0, 1) := by decide +kernel
theorem dX6_left_41 : decode cX6_left 41 = .ok (.getfield 16, 3) := by decide +kernel
theorem dX6_left_44 : decode cX6_left 44 = .ok (.getfield 236, 3) := by decide +kernel
theorem dX6_left_47 : decode cX6_left 47 = .ok (.aload_n 0, 1) := by decide +kernel
theorem dX6_left_48 : decode cX6_left 48 = .ok (.getfield 26, 3) := by decide +kernel
theorem dX6_left_51 : decode cX6_left 51 = .ok (.getfield 239, 3) := by decide +kernel
theorem dX6_left_54 : decode cX6_left 54 = .ok (.imul, 1) := by decide +kernel
theorem dX6_left_55 : decode cX6_left 55 = .ok (.ireturn, 1) := by decide +kernel
theorem dX6_left_56 : decode cX6_left 56 = .ok (.iconst (-1), 1) := by decide +kernel
theorem dX6_left_57 : decode cX6_left 57 = .ok (.ireturn, 1) := by decide +kernel
theorem dX6_likely_0 : decode cX6_likely 0 = .ok (.iload_n 1, 1) := by decide +kernel
theorem dX6_likely_1 : decode cX6_likely 1 = .ok (.invokestatic 119, 3) := by decide +kernel
theorem dX6_likely_4 : decode cX6_likely 4 = .ok (.ifCond .eq 33, 3) := by decide +kernel
theorem dX6_likely_7 : decode cX6_likely 7 = .ok (.iload_n 2, 1) := by decide +kernel
theorem dX6_likely_8 : decode cX6_likely 8 = .ok (.iconst 0, 1) := by decide +kernel
theorem dX6_likely_9 : decode cX6_likely 9 = .ok (.bipush 6, 2) := by decide +kernel
theorem dX6_likely_11 : decode cX6_likely 11 = .ok (.invokestatic 89, 3) := by decide +kernel
theorem dX6_likely_14 : decode cX6_likely 14 = .ok (.ifCond .eq 23, 3) := by decide +kernel
theorem dX6_likely_17 : decode cX6_likely 17 = .ok (.iload_n 3, 1) := by decide +kernel
theorem dX6_likely_18 : decode cX6_likely 18 = .ok (.iconst 0, 1) := by decide +kernel
theorem dX6_likely_19 : decode cX6_likely 19 = .ok (.bipush 10, 2) := by decide +kernel
theorem dX6_likely_21 : decode cX6_likely 21 = .ok (.invokestatic 89, 3) := by decide +kernel
theorem dX6_likely_24 : decode cX6_likely 24 = .ok (.ifCond .eq 13, 3) := by decide +kernel
theorem dX6_likely_27 : decode cX6_likely 27 = .ok (.iload 4, 2) := by decide +kernel
theorem dX6_likely_29 : decode cX6_likely 29 = .ok (.iconst 0, 1) := by decide +kernel
theorem dX6_likely_30 : decode cX6_likely 30 = .ok (.iconst 1, 1) := by decide +kernel
theorem dX6_likely_31 : decode cX6_likely 31 = .ok (.invokestatic 89, 3) := by decide +kernel
theorem dX6_likely_34 : decode cX6_likely 34 = .ok (.ifCond .ne 5, 3) := by decide +kernel
theorem dX6_likely_37 : decode cX6_likely 37 = .ok (.iconst (-1), 1) := by decide +kernel
theorem dX6_likely_38 : decode cX6_likely 38 = .ok (.ireturn, 1) := by decide +kernel
theorem dX6_likely_39 : decode cX6_likely 39 = .ok (.aload_n 0, 1) := by decide +kernel
theorem dX6_likely_40 : decode cX6_likely 40 = .ok (.getfield 26, 3) := by decide +kernel
theorem dX6_likely_43 : decode cX6_likely 43 = .ok (.iload_n 1, 1) := by decide +kernel
theorem dX6_likely_44 : decode cX6_likely 44 = .ok (.invokevirtual 125, 3) := by decide +kernel
theorem dX6_likely_47 : decode cX6_likely 47 = .ok (.ifCond .ne 6, 3) := by decide +kernel
theorem dX6_likely_50 : decode cX6_likely 50 = .ok (.bipush (-2), 2) := by decide +kernel
theorem dX6_likely_52 : decode cX6_likely 52 = .ok (.ireturn, 1) := by decide +kernel
theorem dX6_likely_53 : decode cX6_likely 53 = .ok (.aload_n 0, 1) := by decide +kernel
theorem dX6_likely_54 : decode cX6_likely 54 = .ok (.getfield 26, 3) := by decide +kernel
theorem dX6_likely_57 : decode cX6_likely 57 = .ok (.iload_n 1, 1) := by decide +kernel
theorem dX6_likely_58 : decode cX6_likely 58 = .ok (.invokevirtual 122, 3) := by decide +kernel
theorem dX6_likely_61 : decode cX6_likely 61 = .ok (.iload_n 2, 1) := by decide +kernel
theorem dX6_likely_62 : decode cX6_likely 62 = .ok (.iload_n 3, 1) := by decide +kernel
theorem dX6_likely_63 : decode cX6_likely 63 = .ok (.invokestatic 246, 3) := by decide +kernel
theorem dX6_likely_66 : decode cX6_likely 66 = .ok (.istore 5, 2) := by decide +kernel
theorem dX6_likely_68 : decode cX6_likely 68 = .ok (.bipush 10, 2) := by decide +kernel
theorem dX6_likely_70 : decode cX6_likely 70 = .ok (.iload_n 2, 1) := by decide +kernel
theorem dX6_likely_71 : decode cX6_likely 71 = .ok (.invokestatic 250, 3) := by decide +kernel
theorem dX6_likely_74 : decode cX6_likely 74 = .ok (.istore 6, 2) := by decide +kernel
theorem dX6_likely_76 : decode cX6_likely 76 = .ok (.iload 5, 2) := by decide +kernel
theorem dX6_likely_78 : decode cX6_likely 78 = .ok (.iload 6, 2) := by decide +kernel
theorem dX6_likely_80 : decode cX6_likely 80 = .ok (.invokestatic 253, 3) := by decide +kernel
theorem dX6_likely_83 : decode cX6_likely 83 = .ok (.istore 7, 2) := by decide +kernel
theorem dX6_likely_85 : decode cX6_likely 85 = .ok (.iload 7, 2) := by decide +kernel
theorem dX6_likely_87 : decode cX6_likely 87 = .ok (.ifCond .gt 6, 3) := by decide +kernel
theorem dX6_likely_90 : decode cX6_likely 90 = .ok (.bipush (-4), 2) := by decide +kernel
theorem dX6_likely_92 : decode cX6_likely 92 = .ok (.ireturn, 1) := by decide +kernel
theorem dX6_likely_93 : decode cX6_likely 93 = .ok (.iload 4, 2) := by decide +kernel
theorem dX6_likely_95 : decode cX6_likely 95 = .ok (.ifCond .ne 11, 3) := by decide +kernel
theorem dX6_likely_98 : decode cX6_likely 98 = .ok (.iload 5, 2) := by decide +kernel
theorem dX6_likely_100 : decode cX6_likely 100 = .ok (.iload 7, 2) := by decide +kernel
theorem dX6_likely_102 : decode cX6_likely 102 = .ok (.idiv, 1) := by decide +kernel
theorem dX6_likely_103 : decode cX6_likely 103 = .ok (.goto 8, 3) := by decide +kernel
theorem dX6_likely_106 : decode cX6_likely 106 = .ok (.iload 6, 2) := by decide +kernel
theorem dX6_likely_108 : decode cX6_likely 108 = .ok (.iload 7, 2) := by decide +kernel
theorem dX6_likely_110 : decode cX6_likely 110 = .ok (.idiv, 1) := by decide +kernel
theorem dX6_likely_111 : decode cX6_likely 111 = .ok (.ireturn, 1) := by decide +kernel
theorem dX6_year_0 : decode cX6_year 0 = .ok (.iload_n 1, 1) := by decide +kernel
theorem dX6_year_1 : decode cX6_year 1 = .ok (.iconst 0, 1) := by decide +kernel
theorem dX6_year_2 : decode cX6_year 2 = .ok (.sipush 9999, 3) := by decide +kernel
theorem dX6_year_5 : decode cX6_year 5 = .ok (.invokestatic 89, 3) := by decide +kernel
theorem dX6_year_8 : decode cX6_year 8 = .ok (.ifCond .eq 22, 3) := by decide +kernel
theorem dX6_year_11 : decode cX6_year 11 = .ok (.iload_n 2, 1) := by decide +kernel
theorem dX6_year_12 : decode cX6_year 12 = .ok (.iconst 1, 1) := by decide +kernel
theorem dX6_year_13 : decode cX6_year 13 = .ok (.bipush 40, 2) := by decide +kernel
theorem dX6_year_15 : decode cX6_year 15 = .ok (.invokestatic 89, 3) := by decide +kernel
theorem dX6_year_18 : decode cX6_year 18 = .ok (.ifCond .eq 12, 3) := by decide +kernel
theorem dX6_year_21 : decode cX6_year 21 = .ok (.iload_n 3, 1) := by decide +kernel
theorem dX6_year_22 : decode cX6_year 22 = .ok (.iconst 0, 1) := by decide +kernel
theorem dX6_year_23 : decode cX6_year 23 = .ok (.iconst 1, 1) := by decide +kernel
theorem dX6_year_24 : decode cX6_year 24 = .ok (.invokestatic 89, 3) := by decide +kernel
theorem dX6_year_27 : decode cX6_year 27 = .ok (.ifCond .ne 5, 3) := by decide +kernel
theorem dX6_year_30 : decode cX6_year 30 = .ok (.iconst (-1), 1) := by decide +kernel
theorem dX6_year_31 : decode cX6_year 31 = .ok (.ireturn, 1) := by decide +kernel
theorem dX6_year_32 : decode cX6_year 32 = .ok (.aload_n 0, 1) := by decide +kernel
theorem dX6_year_33 : decode cX6_year 33 = .ok (.getfield 26, 3) := by decide +kernel
theorem dX6_year_36 : decode cX6_year 36 = .ok (.aload_n 0, 1) := by decide +kernel
theorem dX6_year_37 : decode cX6_year 37 = .ok (.getfield 16, 3) := by decide +kernel
theorem dX6_year_40 : decode cX6_year 40 = .ok (.invokevirtual 149, 3) := by decide +kernel
theorem dX6_year_43 : decode cX6_year 43 = .ok (.ifCond .ne 6, 3) := by decide +kernel
theorem dX6_year_46 : decode cX6_year 46 = .ok (.bipush (-2), 2) := by decide +kernel
theorem dX6_year_48 : decode cX6_year 48 = .ok (.ireturn, 1) := by decide +kernel
theorem dX6_year_49 : decode cX6_year 49 = .ok (.aload_n 0, 1) := by decide +kernel
theorem dX6_year_50 : decode cX6_year 50 = .ok (.getfield 30, 3) := by decide +kernel
theorem dX6_year_53 : decode cX6_year 53 = .ok (.aload_n 0, 1) := by decide +kernel
theorem dX6_year_54 : decode cX6_year 54 = .ok (.getfield 26, 3) := by decide +kernel
theorem dX6_year_57 : decode cX6_year 57 = .ok (.invokevirtual 256, 3) := by decide +kernel
theorem dX6_year_60 : decode cX6_year 60 = .ok (.iconst 0, 1) := by decide +kernel
theorem dX6_year_61 : decode cX6_year 61 = .ok (.istore 4, 2) := by decide +kernel
theorem dX6_year_63 : decode cX6_year 63 = .ok (.iload 4, 2) := by decide +kernel
theorem dX6_year_65 : decode cX6_year 65 = .ok (.iload_n 2, 1) := by decide +kernel
theorem dX6_year_66 : decode cX6_year 66 = .ok (.if_icmp .ge 26, 3) := by decide +kernel
theorem dX6_year_69 : decode cX6_year 69 = .ok (.aload_n 0, 1) := by decide +kernel
theorem dX6_year_70 : decode cX6_year 70 = .ok (.getfield 30, 3) := by decide +kernel
theorem dX6_year_73 : decode cX6_year 73 = .ok (.aload_n 0, 1) := by decide +kernel
theorem dX6_year_74 : decode cX6_year 74 = .ok (.getfield 16, 3) := by decide +kernel
theorem dX6_year_77 : decode cX6_year 77 = .ok (.iload_n 1, 1) := by decide +kernel
theorem dX6_year_78 : decode cX6_year 78 = .ok (.iload 4, 2) := by decide +kernel
theorem dX6_year_80 : decode cX6_year 80 = .ok (.invokestatic 259, 3) := by decide +kernel
theorem dX6_year_83 : decode cX6_year 83 = .ok (.invokevirtual 262, 3) := by decide +kernel
theorem dX6_year_86 : decode cX6_year 86 = .ok (.iinc 4 1, 3) := by decide +kernel
theorem dX6_year_89 : decode cX6_year 89 = .ok (.goto (-26), 3) := by decide +kernel
theorem dX6_year_92 : decode cX6_year 92 = .ok (.iload_n 3, 1) := by decide +kernel
theorem dX6_year_93 : decode cX6_year 93 = .ok (.ifCond .ne 16, 3) := by decide +kernel
theorem dX6_year_96 : decode cX6_year 96 = .ok (.aload_n 0, 1) := by decide +kernel
theorem dX6_year_97 : decode cX6_year 97 = .ok (.getfield 30, 3) := by decide +kernel
theorem dX6_year_100 : decode cX6_year 100 = .ok (.getfield 266, 3) := by decide +kernel
theorem dX6_year_103 : decode cX6_year 103 = .ok (.invokestatic 269, 3) := by decide +kernel
theorem dX6_year_106 : decode cX6_year 106 = .ok (.goto 10, 3) := by decide +kernel
theorem dX6_year_109 : decode cX6_year 109 = .ok (.aload_n 0, 1) := by decide +kernel
theorem dX6_year_110 : decode cX6_year 110 = .ok (.getfield 30, 3) := by decide +kernel
theorem dX6_year_113 : decode cX6_year 113 = .ok (.invokevirtual 274, 3) := by decide +kernel
theorem dX6_year_116 : decode cX6_year 116 = .ok (.ireturn, 1) := by decide +kernel
theorem dX6_keep_0 : decode cX6_keep 0 = .ok (.aload_n 0, 1) := by decide +kernel
theorem dX6_keep_1 : decode cX6_keep 1 = .ok (.getfield 42, 3) := by decide +kernel
theorem dX6_keep_4 : decode cX6_keep 4 = .ok (.invokevirtual 277, 3) := by decide +kernel
theorem dX6_keep_7 : decode cX6_keep 7 = .ok (.ifCond .eq 6, 3) := by decide +kernel
theorem dX6_keep_10 : decode cX6_keep 10 = .ok (.bipush (-3), 2) := by decide +kernel
theorem dX6_keep_12 : decode cX6_keep 12 = .ok (.ireturn, 1) := by decide +kernel
theorem dX6_keep_13 : decode cX6_keep 13 = .ok (.aload_n 0, 1) := by decide +kernel
theorem dX6_keep_14 : decode cX6_keep 14 = .ok (.getfield 42, 3) := by decide +kernel
theorem dX6_keep_17 : decode cX6_keep 17 = .ok (.aload_n 0, 1) := by decide +kernel
theorem dX6_keep_18 : decode cX6_keep 18 = .ok (.getfield 26, 3) := by decide +kernel
theorem dX6_keep_21 : decode cX6_keep 21 = .ok (.invokevirtual 141, 3) := by decide +kernel
theorem dX6_keep_24 : decode cX6_keep 24 = .ok (.aload_n 0, 1) := by decide +kernel
theorem dX6_keep_25 : decode cX6_keep 25 = .ok (.getfield 42, 3) := by decide +kernel
theorem dX6_keep_28 : decode cX6_keep 28 = .ok (.getfield 174, 3) := by decide +kernel
theorem dX6_keep_31 : decode cX6_keep 31 = .ok (.ireturn, 1) := by decide +kernel
theorem dX6_back_0 : decode cX6_back 0 = .ok (.aload_n 0, 1) := by decide +kernel
theorem dX6_back_1 : decode cX6_back 1 = .ok (.getfield 42, 3) := by decide +kernel
theorem dX6_back_4 : decode cX6_back 4 = .ok (.aload_n 0, 1) := by decide +kernel
theorem dX6_back_5 : decode cX6_back 5 = .ok (.getfield 26, 3) := by decide +kernel
theorem dX6_back_8 : decode cX6_back 8 = .ok (.invokevirtual 170, 3) := by decide +kernel
theorem dX6_back_11 : decode cX6_back 11 = .ok (.ifCond .ne 6, 3) := by decide +kernel
theorem dX6_back_14 : decode cX6_back 14 = .ok (.bipush (-2), 2) := by decide +kernel
theorem dX6_back_16 : decode cX6_back 16 = .ok (.ireturn, 1) := by decide +kernel
theorem dX6_back_17 : decode cX6_back 17 = .ok (.aload_n 0, 1) := by decide +kernel
theorem dX6_back_18 : decode cX6_back 18 = .ok (.getfield 38, 3) := by decide +kernel
theorem dX6_back_21 : decode cX6_back 21 = .ok (.invokevirtual 99, 3) := by decide +kernel
theorem dX6_back_24 : decode cX6_back 24 = .ok (.aload_n 0, 1) := by decide +kernel
theorem dX6_back_25 : decode cX6_back 25 = .ok (.getfield 42, 3) := by decide +kernel
theorem dX6_back_28 : decode cX6_back 28 = .ok (.getfield 174, 3) := by decide +kernel
theorem dX6_back_31 : decode cX6_back 31 = .ok (.ireturn, 1) := by decide +kernel
theorem dX6_count_0 : decode cX6_count 0 = .ok (.iload_n 1, 1) := by decide +kernel
theorem dX6_count_1 : decode cX6_count 1 = .ok (.tableswitch 156 0 10 #[59, 67, 75, 83, 97, 108, 119, 127, 135, 143, 151], 59) := by decide +kernel
theorem dX6_count_60 : decode cX6_count 60 = .ok (.aload_n 0, 1) := by decide +kernel
theorem dX6_count_61 : decode cX6_count 61 = .ok (.getfield 16, 3) := by decide +kernel
theorem dX6_count_64 : decode cX6_count 64 = .ok (.getfield 96, 3) := by decide +kernel
theorem dX6_count_67 : decode cX6_count 67 = .ok (.ireturn, 1) := by decide +kernel
theorem dX6_count_68 : decode cX6_count 68 = .ok (.aload_n 0, 1) := by decide +kernel
theorem dX6_count_69 : decode cX6_count 69 = .ok (.getfield 26, 3) := by decide +kernel
theorem dX6_count_72 : decode cX6_count 72 = .ok (.getfield 281, 3) := by decide +kernel
theorem dX6_count_75 : decode cX6_count 75 = .ok (.ireturn, 1) := by decide +kernel
theorem dX6_count_76 : decode cX6_count 76 = .ok (.aload_n 0, 1) := by decide +kernel
theorem dX6_count_77 : decode cX6_count 77 = .ok (.getfield 26, 3) := by decide +kernel
theorem dX6_count_80 : decode cX6_count 80 = .ok (.getfield 239, 3) := by decide +kernel
theorem dX6_count_83 : decode cX6_count 83 = .ok (.ireturn, 1) := by decide +kernel
theorem dX6_count_84 : decode cX6_count 84 = .ok (.iconst 0, 1) := by decide +kernel
theorem dX6_count_85 : decode cX6_count 85 = .ok (.aload_n 0, 1) := by decide +kernel
theorem dX6_count_86 : decode cX6_count 86 = .ok (.getfield 26, 3) := by decide +kernel
theorem dX6_count_89 : decode cX6_count 89 = .ok (.getfield 281, 3) := by decide +kernel
theorem dX6_count_92 : decode cX6_count 92 = .ok (.iconst 1, 1) := by decide +kernel
theorem dX6_count_93 : decode cX6_count 93 = .ok (.isub, 1) := by decide +kernel
theorem dX6_count_94 : decode cX6_count 94 = .ok (.invokestatic 284, 3) := by decide +kernel
theorem dX6_count_97 : decode cX6_count 97 = .ok (.ireturn, 1) := by decide +kernel
theorem dX6_count_98 : decode cX6_count 98 = .ok (.aload_n 0, 1) := by decide +kernel
theorem dX6_count_99 : decode cX6_count 99 = .ok (.getfield 26, 3) := by decide +kernel
theorem dX6_count_102 : decode cX6_count 102 = .ok (.getfield 287, 3) := by decide +kernel
theorem dX6_count_105 : decode cX6_count 105 = .ok (.invokestatic 269, 3) := by decide +kernel
theorem dX6_count_108 : decode cX6_count 108 = .ok (.ireturn, 1) := by decide +kernel
theorem dX6_count_109 : decode cX6_count 109 = .ok (.aload_n 0, 1) := by decide +kernel
theorem dX6_count_110 : decode cX6_count 110 = .ok (.getfield 26, 3) := by decide +kernel
theorem dX6_count_113 : decode cX6_count 113 = .ok (.getfield 266, 3) := by decide +kernel
theorem dX6_count_116 : decode cX6_count 116 = .ok (.invokestatic 269, 3) := by decide +kernel
theorem dX6_count_119 : decode cX6_count 119 = .ok (.ireturn, 1) := by decide +kernel
theorem dX6_count_120 : decode cX6_count 120 = .ok (.aload_n 0, 1) := by decide +kernel
theorem dX6_count_121 : decode cX6_count 121 = .ok (.getfield 26, 3) := by decide +kernel
theorem dX6_count_124 : decode cX6_count 124 = .ok (.getfield 163, 3) := by decide +kernel
theorem dX6_count_127 : decode cX6_count 127 = .ok (.ireturn, 1) := by decide +kernel
theorem dX6_count_128 : decode cX6_count 128 = .ok (.aload_n 0, 1) := by decide +kernel
theorem dX6_count_129 : decode cX6_count 129 = .ok (.getfield 48, 3) := by decide +kernel
theorem dX6_count_132 : decode cX6_count 132 = .ok (.getfield 219, 3) := by decide +kernel
theorem dX6_count_135 : decode cX6_count 135 = .ok (.ireturn, 1) := by decide +kernel
theorem dX6_count_136 : decode cX6_count 136 = .ok (.aload_n 0, 1) := by decide +kernel
theorem dX6_count_137 : decode cX6_count 137 = .ok (.getfield 38, 3) := by decide +kernel
theorem dX6_count_140 : decode cX6_count 140 = .ok (.getfield 174, 3) := by decide +kernel
theorem dX6_count_143 : decode cX6_count 143 = .ok (.ireturn, 1) := by decide +kernel
theorem dX6_count_144 : decode cX6_count 144 = .ok (.aload_n 0, 1) := by decide +kernel
theorem dX6_count_145 : decode cX6_count 145 = .ok (.getfield 42, 3) := by decide +kernel
theorem dX6_count_148 : decode cX6_count 148 = .ok (.getfield 174, 3) := by decide +kernel
theorem dX6_count_151 : decode cX6_count 151 = .ok (.ireturn, 1) := by decide +kernel
theorem dX6_count_152 : decode cX6_count 152 = .ok (.aload_n 0, 1) := by decide +kernel
theorem dX6_count_153 : decode cX6_count 153 = .ok (.getfield 93, 3) := by decide +kernel
theorem dX6_count_156 : decode cX6_count 156 = .ok (.ireturn, 1) := by decide +kernel
theorem dX6_count_157 : decode cX6_count 157 = .ok (.iconst (-1), 1) := by decide +kernel
theorem dX6_count_158 : decode cX6_count 158 = .ok (.ireturn, 1) := by decide +kernel
theorem dX6_within_0 : decode cX6_within 0 = .ok (.iload_n 0, 1) := by decide +kernel
theorem dX6_within_1 : decode cX6_within 1 = .ok (.iload_n 1, 1) := by decide +kernel
theorem dX6_within_2 : decode cX6_within 2 = .ok (.if_icmp .lt 12, 3) := by decide +kernel
theorem dX6_within_5 : decode cX6_within 5 = .ok (.iload_n 0, 1) := by decide +kernel
theorem dX6_within_6 : decode cX6_within 6 = .ok (.iload_n 2, 1) := by decide +kernel
theorem dX6_within_7 : decode cX6_within 7 = .ok (.if_icmp .gt 7, 3) := by decide +kernel
theorem dX6_within_10 : decode cX6_within 10 = .ok (.iconst 1, 1) := by decide +kernel
theorem dX6_within_11 : decode cX6_within 11 = .ok (.goto 4, 3) := by decide +kernel
theorem dX6_within_14 : decode cX6_within 14 = .ok (.iconst 0, 1) := by decide +kernel
theorem dX6_within_15 : decode cX6_within 15 = .ok (.ireturn, 1) := by decide +kernel
theorem dX6_isWall_0 : decode cX6_isWall 0 = .ok (.iload_n 0, 1) := by decide +kernel
theorem dX6_isWall_1 : decode cX6_isWall 1 = .ok (.iconst 0, 1) := by decide +kernel
theorem dX6_isWall_2 : decode cX6_isWall 2 = .ok (.iconst 3, 1) := by decide +kernel
theorem dX6_isWall_3 : decode cX6_isWall 3 = .ok (.invokestatic 89, 3) := by decide +kernel
theorem dX6_isWall_6 : decode cX6_isWall 6 = .ok (.ireturn, 1) := by decide +kernel
theorem dX6_at_0 : decode cX6_at 0 = .ok (.iload_n 1, 1) := by decide +kernel
theorem dX6_at_1 : decode cX6_at 1 = .ok (.ifCond .lt 15, 3) := by decide +kernel
theorem dX6_at_4 : decode cX6_at 4 = .ok (.iload_n 1, 1) := by decide +kernel
theorem dX6_at_5 : decode cX6_at 5 = .ok (.aload_n 0, 1) := by decide +kernel
theorem dX6_at_6 : decode cX6_at 6 = .ok (.arraylength, 1) := by decide +kernel
theorem dX6_at_7 : decode cX6_at 7 = .ok (.if_icmp .ge 9, 3) := by decide +kernel
theorem dX6_at_10 : decode cX6_at 10 = .ok (.aload_n 0, 1) := by decide +kernel
theorem dX6_at_11 : decode cX6_at 11 = .ok (.iload_n 1, 1) := by decide +kernel
theorem dX6_at_12 : decode cX6_at 12 = .ok (.iaload, 1) := by decide +kernel
theorem dX6_at_13 : decode cX6_at 13 = .ok (.goto 4, 3) := by decide +kernel
theorem dX6_at_16 : decode cX6_at 16 = .ok (.iconst 0, 1) := by decide +kernel
theorem dX6_at_17 : decode cX6_at 17 = .ok (.ireturn, 1) := by decide +kernel
theorem dX6_put_0 : decode cX6_put 0 = .ok (.iload_n 1, 1) := by decide +kernel
theorem dX6_put_1 : decode cX6_put 1 = .ok (.ifCond .lt 13, 3) := by decide +kernel
theorem dX6_put_4 : decode cX6_put 4 = .ok (.iload_n 1, 1) := by decide +kernel
theorem dX6_put_5 : decode cX6_put 5 = .ok (.aload_n 0, 1) := by decide +kernel
theorem dX6_put_6 : decode cX6_put 6 = .ok (.arraylength, 1) := by decide +kernel
theorem dX6_put_7 : decode cX6_put 7 = .ok (.if_icmp .ge 7, 3) := by decide +kernel
theorem dX6_put_10 : decode cX6_put 10 = .ok (.aload_n 0, 1) := by decide +kernel
theorem dX6_put_11 : decode cX6_put 11 = .ok (.iload_n 1, 1) := by decide +kernel
theorem dX6_put_12 : decode cX6_put 12 = .ok (.iload_n 2, 1) := by decide +kernel
theorem dX6_put_13 : decode cX6_put 13 = .ok (.iastore, 1) := by decide +kernel
theorem dX6_put_14 : decode cX6_put 14 = .ok (.return_, 1) := by decide +kernel
theorem dX6_copy_0 : decode cX6_copy 0 = .ok (.iconst 0, 1) := by decide +kernel
theorem dX6_copy_1 : decode cX6_copy 1 = .ok (.istore_n 2, 1) := by decide +kernel
theorem dX6_copy_2 : decode cX6_copy 2 = .ok (.iload_n 2, 1) := by decide +kernel
theorem dX6_copy_3 : decode cX6_copy 3 = .ok (.aload_n 0, 1) := by decide +kernel
theorem dX6_copy_4 : decode cX6_copy 4 = .ok (.arraylength, 1) := by decide +kernel
theorem dX6_copy_5 : decode cX6_copy 5 = .ok (.if_icmp .ge 21, 3) := by decide +kernel
theorem dX6_copy_8 : decode cX6_copy 8 = .ok (.iload_n 2, 1) := by decide +kernel
theorem dX6_copy_9 : decode cX6_copy 9 = .ok (.aload_n 1, 1) := by decide +kernel
theorem dX6_copy_10 : decode cX6_copy 10 = .ok (.arraylength, 1) := by decide +kernel
theorem dX6_copy_11 : decode cX6_copy 11 = .ok (.if_icmp .ge 15, 3) := by decide +kernel
theorem dX6_copy_14 : decode cX6_copy 14 = .ok (.aload_n 1, 1) := by decide +kernel
theorem dX6_copy_15 : decode cX6_copy 15 = .ok (.iload_n 2, 1) := by decide +kernel
theorem dX6_copy_16 : decode cX6_copy 16 = .ok (.aload_n 0, 1) := by decide +kernel
theorem dX6_copy_17 : decode cX6_copy 17 = .ok (.iload_n 2, 1) := by decide +kernel
theorem dX6_copy_18 : decode cX6_copy 18 = .ok (.iaload, 1) := by decide +kernel
theorem dX6_copy_19 : decode cX6_copy 19 = .ok (.iastore, 1) := by decide +kernel
theorem dX6_copy_20 : decode cX6_copy 20 = .ok (.iinc 2 1, 3) := by decide +kernel
theorem dX6_copy_23 : decode cX6_copy 23 = .ok (.goto (-21), 3) := by decide +kernel
theorem dX6_copy_26 : decode cX6_copy 26 = .ok (.return_, 1) := by decide +kernel
theorem dX6_power_0 : decode cX6_power 0 = .ok (.iconst 1, 1) := by decide +kernel
theorem dX6_power_1 : decode cX6_power 1 = .ok (.istore_n 2, 1) := by decide +kernel
theorem dX6_power_2 : decode cX6_power 2 = .ok (.iconst 0, 1) := by decide +kernel
theorem dX6_power_3 : decode cX6_power 3 = .ok (.istore_n 3, 1) := by decide +kernel
theorem dX6_power_4 : decode cX6_power 4 = .ok (.iload_n 3, 1) := by decide +kernel
theorem dX6_power_5 : decode cX6_power 5 = .ok (.iload_n 1, 1) := by decide +kernel
theorem dX6_power_6 : decode cX6_power 6 = .ok (.if_icmp .ge 13, 3) := by decide +kernel
theorem dX6_power_9 : decode cX6_power 9 = .ok (.iload_n 2, 1) := by decide +kernel
theorem dX6_power_10 : decode cX6_power 10 = .ok (.iload_n 0, 1) := by decide +kernel
theorem dX6_power_11 : decode cX6_power 11 = .ok (.imul, 1) := by decide +kernel
theorem dX6_power_12 : decode cX6_power 12 = .ok (.istore_n 2, 1) := by decide +kernel
theorem dX6_power_13 : decode cX6_power 13 = .ok (.iinc 3 1, 3) := by decide +kernel
theorem dX6_power_16 : decode cX6_power 16 = .ok (.goto (-12), 3) := by decide +kernel
theorem dX6_power_19 : decode cX6_power 19 = .ok (.iload_n 2, 1) := by decide +kernel
theorem dX6_power_20 : decode cX6_power 20 = .ok (.ireturn, 1) := by decide +kernel
theorem dX6_commonDivisor_0 : decode cX6_commonDivisor 0 = .ok (.iload_n 0, 1) := by decide +kernel
theorem dX6_commonDivisor_1 : decode cX6_commonDivisor 1 = .ok (.istore_n 2, 1) := by decide +kernel
theorem dX6_commonDivisor_2 : decode cX6_commonDivisor 2 = .ok (.iload_n 1, 1) := by decide +kernel
theorem dX6_commonDivisor_3 : decode cX6_commonDivisor 3 = .ok (.istore_n 3, 1) := by decide +kernel
theorem dX6_commonDivisor_4 : decode cX6_commonDivisor 4 = .ok (.iconst 0, 1) := by decide +kernel
theorem dX6_commonDivisor_5 : decode cX6_commonDivisor 5 = .ok (.istore 4, 2) := by decide +kernel
theorem dX6_commonDivisor_7 : decode cX6_commonDivisor 7 = .ok (.iload 4, 2) := by decide +kernel
theorem dX6_commonDivisor_9 : decode cX6_commonDivisor 9 = .ok (.bipush 100, 2) := by decide +kernel
theorem dX6_commonDivisor_11 : decode cX6_commonDivisor 11 = .ok (.if_icmp .ge 23, 3) := by decide +kernel
theorem dX6_commonDivisor_14 : decode cX6_commonDivisor 14 = .ok (.iload_n 3, 1) := by decide +kernel
theorem dX6_commonDivisor_15 : decode cX6_commonDivisor 15 = .ok (.ifCond .eq 19, 3) := by decide +kernel
theorem dX6_commonDivisor_18 : decode cX6_commonDivisor 18 = .ok (.iload_n 2, 1) := by decide +kernel
theorem dX6_commonDivisor_19 : decode cX6_commonDivisor 19 = .ok (.iload_n 3, 1) := by decide +kernel
theorem dX6_commonDivisor_20 : decode cX6_commonDivisor 20 = .ok (.irem, 1) := by decide +kernel
theorem dX6_commonDivisor_21 : decode cX6_commonDivisor 21 = .ok (.istore 5, 2) := by decide +kernel
theorem dX6_commonDivisor_23 : decode cX6_commonDivisor 23 = .ok (.iload_n 3, 1) := by decide +kernel
theorem dX6_commonDivisor_24 : decode cX6_commonDivisor 24 = .ok (.istore_n 2, 1) := by decide +kernel
theorem dX6_commonDivisor_25 : decode cX6_commonDivisor 25 = .ok (.iload 5, 2) := by decide +kernel
theorem dX6_commonDivisor_27 : decode cX6_commonDivisor 27 = .ok (.istore_n 3, 1) := by decide +kernel
theorem dX6_commonDivisor_28 : decode cX6_commonDivisor 28 = .ok (.iinc 4 1, 3) := by decide +kernel
theorem dX6_commonDivisor_31 : decode cX6_commonDivisor 31 = .ok (.goto (-24), 3) := by decide +kernel
theorem dX6_commonDivisor_34 : decode cX6_commonDivisor 34 = .ok (.iload_n 2, 1) := by decide +kernel
theorem dX6_commonDivisor_35 : decode cX6_commonDivisor 35 = .ok (.ireturn, 1) := by decide +kernel
theorem dX6_waysToWave_0 : decode cX6_waysToWave 0 = .ok (.iconst 0, 1) := by decide +kernel
theorem dX6_waysToWave_1 : decode cX6_waysToWave 1 = .ok (.istore_n 3, 1) := by decide +kernel
theorem dX6_waysToWave_2 : decode cX6_waysToWave 2 = .ok (.iconst 1, 1) := by decide +kernel
theorem dX6_waysToWave_3 : decode cX6_waysToWave 3 = .ok (.istore 4, 2) := by decide +kernel
theorem dX6_waysToWave_5 : decode cX6_waysToWave 5 = .ok (.iconst 0, 1) := by decide +kernel
theorem dX6_waysToWave_6 : decode cX6_waysToWave 6 = .ok (.istore 5, 2) := by decide +kernel
theorem dX6_waysToWave_8 : decode cX6_waysToWave 8 = .ok (.iload 5, 2) := by decide +kernel
theorem dX6_waysToWave_10 : decode cX6_waysToWave 10 = .ok (.iload_n 1, 1) := by decide +kernel
theorem dX6_waysToWave_11 : decode cX6_waysToWave 11 = .ok (.if_icmp .gt 61, 3) := by decide +kernel
theorem dX6_waysToWave_14 : decode cX6_waysToWave 14 = .ok (.iconst 0, 1) := by decide +kernel
theorem dX6_waysToWave_15 : decode cX6_waysToWave 15 = .ok (.iload_n 0, 1) := by decide +kernel
theorem dX6_waysToWave_16 : decode cX6_waysToWave 16 = .ok (.iconst 2, 1) := by decide +kernel
theorem dX6_waysToWave_17 : decode cX6_waysToWave 17 = .ok (.iload 5, 2) := by decide +kernel
theorem dX6_waysToWave_19 : decode cX6_waysToWave 19 = .ok (.imul, 1) := by decide +kernel
theorem dX6_waysToWave_20 : decode cX6_waysToWave 20 = .ok (.isub, 1) := by decide +kernel
theorem dX6_waysToWave_21 : decode cX6_waysToWave 21 = .ok (.invokestatic 284, 3) := by decide +kernel
theorem dX6_waysToWave_24 : decode cX6_waysToWave 24 = .ok (.iconst 2, 1) := by decide +kernel
theorem dX6_waysToWave_25 : decode cX6_waysToWave 25 = .ok (.if_icmp .ge 27, 3) := by decide +kernel
theorem dX6_waysToWave_28 : decode cX6_waysToWave 28 = .ok (.iload_n 3, 1) := by decide +kernel
theorem dX6_waysToWave_29 : decode cX6_waysToWave 29 = .ok (.iload 4, 2) := by decide +kernel
theorem dX6_waysToWave_31 : decode cX6_waysToWave 31 = .ok (.iload_n 2, 1) := by decide +kernel
theorem dX6_waysToWave_32 : decode cX6_waysToWave 32 = .ok (.iload 5, 2) := by decide +kernel
theorem dX6_waysToWave_34 : decode cX6_waysToWave 34 = .ok (.invokestatic 250, 3) := by decide +kernel
theorem dX6_waysToWave_37 : decode cX6_waysToWave 37 = .ok (.imul, 1) := by decide +kernel
theorem dX6_waysToWave_38 : decode cX6_waysToWave 38 = .ok (.bipush 10, 2) := by decide +kernel
theorem dX6_waysToWave_40 : decode cX6_waysToWave 40 = .ok (.iload_n 2, 1) := by decide +kernel
theorem dX6_waysToWave_41 : decode cX6_waysToWave 41 = .ok (.isub, 1) := by decide +kernel
theorem dX6_waysToWave_42 : decode cX6_waysToWave 42 = .ok (.iload_n 1, 1) := by decide +kernel
theorem dX6_waysToWave_43 : decode cX6_waysToWave 43 = .ok (.iload 5, 2) := by decide +kernel
theorem dX6_waysToWave_45 : decode cX6_waysToWave 45 = .ok (.isub, 1) := by decide +kernel
theorem dX6_waysToWave_46 : decode cX6_waysToWave 46 = .ok (.invokestatic 250, 3) := by decide +kernel
theorem dX6_waysToWave_49 : decode cX6_waysToWave 49 = .ok (.imul, 1) := by decide +kernel
theorem dX6_waysToWave_50 : decode cX6_waysToWave 50 = .ok (.iadd, 1) := by decide +kernel
theorem dX6_waysToWave_51 : decode cX6_waysToWave 51 = .ok (.istore_n 3, 1) := by decide +kernel
theorem dX6_waysToWave_52 : decode cX6_waysToWave 52 = .ok (.iload 4, 2) := by decide +kernel
theorem dX6_waysToWave_54 : decode cX6_waysToWave 54 = .ok (.iload_n 1, 1) := by decide +kernel
theorem dX6_waysToWave_55 : decode cX6_waysToWave 55 = .ok (.iload 5, 2) := by decide +kernel
theorem dX6_waysToWave_57 : decode cX6_waysToWave 57 = .ok (.isub, 1) := by decide +kernel
theorem dX6_waysToWave_58 : decode cX6_waysToWave 58 = .ok (.imul, 1) := by decide +kernel
theorem dX6_waysToWave_59 : decode cX6_waysToWave 59 = .ok (.iload 5, 2) := by decide +kernel
theorem dX6_waysToWave_61 : decode cX6_waysToWave 61 = .ok (.iconst 1, 1) := by decide +kernel
theorem dX6_waysToWave_62 : decode cX6_waysToWave 62 = .ok (.iadd, 1) := by decide +kernel
theorem dX6_waysToWave_63 : decode cX6_waysToWave 63 = .ok (.idiv, 1) := by decide +kernel
theorem dX6_waysToWave_64 : decode cX6_waysToWave 64 = .ok (.istore 4, 2) := by decide +kernel
theorem dX6_waysToWave_66 : decode cX6_waysToWave 66 = .ok (.iinc 5 1, 3) := by decide +kernel
theorem dX6_waysToWave_69 : decode cX6_waysToWave 69 = .ok (.goto (-61), 3) := by decide +kernel
theorem dX6_waysToWave_72 : decode cX6_waysToWave 72 = .ok (.iload_n 3, 1) := by decide +kernel
theorem dX6_waysToWave_73 : decode cX6_waysToWave 73 = .ok (.ireturn, 1) := by decide +kernel
theorem dX6_draw_0 : decode cX6_draw 0 = .ok (.ldc2_w 290, 3) := by decide +kernel
theorem dX6_draw_3 : decode cX6_draw 3 = .ok (.iload_n 0, 1) := by decide +kernel
theorem dX6_draw_4 : decode cX6_draw 4 = .ok (.i2l, 1) := by decide +kernel
theorem dX6_draw_5 : decode cX6_draw 5 = .ok (.lmul, 1) := by decide +kernel
theorem dX6_draw_6 : decode cX6_draw 6 = .ok (.ldc2_w 292, 3) := by decide +kernel
theorem dX6_draw_9 : decode cX6_draw 9 = .ok (.iload_n 1, 1) := by decide +kernel
theorem dX6_draw_10 : decode cX6_draw 10 = .ok (.i2l, 1) := by decide +kernel
theorem dX6_draw_11 : decode cX6_draw 11 = .ok (.lmul, 1) := by decide +kernel
theorem dX6_draw_12 : decode cX6_draw 12 = .ok (.ladd, 1) := by decide +kernel
theorem dX6_draw_13 : decode cX6_draw 13 = .ok (.lconst 1, 1) := by decide +kernel
theorem dX6_draw_14 : decode cX6_draw 14 = .ok (.ladd, 1) := by decide +kernel
theorem dX6_draw_15 : decode cX6_draw 15 = .ok (.lstore_n 2, 1) := by decide +kernel
theorem dX6_draw_16 : decode cX6_draw 16 = .ok (.lload_n 2, 1) := by decide +kernel
theorem dX6_draw_17 : decode cX6_draw 17 = .ok (.lload_n 2, 1) := by decide +kernel
theorem dX6_draw_18 : decode cX6_draw 18 = .ok (.lmul, 1) := by decide +kernel
theorem dX6_draw_19 : decode cX6_draw 19 = .ok (.ldc2_w 294, 3) := by decide +kernel
theorem dX6_draw_22 : decode cX6_draw 22 = .ok (.lrem, 1) := by decide +kernel
theorem dX6_draw_23 : decode cX6_draw 23 = .ok (.ldc2_w 296, 3) := by decide +kernel
theorem dX6_draw_26 : decode cX6_draw 26 = .ok (.ldiv, 1) := by decide +kernel
theorem dX6_draw_27 : decode cX6_draw 27 = .ok (.l2i, 1) := by decide +kernel
theorem dX6_draw_28 : decode cX6_draw 28 = .ok (.ireturn, 1) := by decide +kernel
theorem dX6_slackOf_0 : decode cX6_slackOf 0 = .ok (.iload_n 0, 1) := by decide +kernel
theorem dX6_slackOf_1 : decode cX6_slackOf 1 = .ok (.tableswitch 37 0 2 #[27, 31, 33], 27) := by decide +kernel
theorem dX6_slackOf_28 : decode cX6_slackOf 28 = .ok (.iload_n 1, 1) := by decide +kernel
theorem dX6_slackOf_29 : decode cX6_slackOf 29 = .ok (.iconst 2, 1) := by decide +kernel
theorem dX6_slackOf_30 : decode cX6_slackOf 30 = .ok (.idiv, 1) := by decide +kernel
theorem dX6_slackOf_31 : decode cX6_slackOf 31 = .ok (.ireturn, 1) := by decide +kernel
theorem dX6_slackOf_32 : decode cX6_slackOf 32 = .ok (.iload_n 1, 1) := by decide +kernel
theorem dX6_slackOf_33 : decode cX6_slackOf 33 = .ok (.ireturn, 1) := by decide +kernel
theorem dX6_slackOf_34 : decode cX6_slackOf 34 = .ok (.iload_n 1, 1) := by decide +kernel
theorem dX6_slackOf_35 : decode cX6_slackOf 35 = .ok (.iconst 2, 1) := by decide +kernel
theorem dX6_slackOf_36 : decode cX6_slackOf 36 = .ok (.imul, 1) := by decide +kernel
theorem dX6_slackOf_37 : decode cX6_slackOf 37 = .ok (.ireturn, 1) := by decide +kernel
theorem dX6_slackOf_38 : decode cX6_slackOf 38 = .ok (.iload_n 1, 1) := by decide +kernel
theorem dX6_slackOf_39 : decode cX6_slackOf 39 = .ok (.iload_n 2, 1) := by decide +kernel
theorem dX6_slackOf_40 : decode cX6_slackOf 40 = .ok (.iadd, 1) := by decide +kernel
theorem dX6_slackOf_41 : decode cX6_slackOf 41 = .ok (.ireturn, 1) := by decide +kernel
theorem dL_law_0 : decode cL_law 0 = .ok (.new 7, 3) := by decide +kernel
theorem dL_law_3 : decode cL_law 3 = .ok (.dup, 1) := by decide +kernel
theorem dL_law_4 : decode cL_law 4 = .ok (.invokespecial 9, 3) := by decide +kernel
theorem dL_law_7 : decode cL_law 7 = .ok (.astore_n 1, 1) := by decide +kernel
theorem dL_law_8 : decode cL_law 8 = .ok (.new 10, 3) := by decide +kernel
theorem dL_law_11 : decode cL_law 11 = .ok (.dup, 1) := by decide +kernel
theorem dL_law_12 : decode cL_law 12 = .ok (.invokespecial 12, 3) := by decide +kernel
theorem dL_law_15 : decode cL_law 15 = .ok (.astore_n 2, 1) := by decide +kernel
theorem dL_law_16 : decode cL_law 16 = .ok (.iconst 0, 1) := by decide +kernel
theorem dL_law_17 : decode cL_law 17 = .ok (.istore_n 3, 1) := by decide +kernel
theorem dL_law_18 : decode cL_law 18 = .ok (.iload_n 3, 1) := by decide +kernel
theorem dL_law_19 : decode cL_law 19 = .ok (.aload_n 0, 1) := by decide +kernel
theorem dL_law_20 : decode cL_law 20 = .ok (.arraylength, 1) := by decide +kernel
theorem dL_law_21 : decode cL_law 21 = .ok (.iconst 5, 1) := by decide +kernel
theorem dL_law_22 : decode cL_law 22 = .ok (.isub, 1) := by decide +kernel
theorem dL_law_23 : decode cL_law 23 = .ok (.if_icmp .gt 780, 3) := by decide +kernel
theorem dL_law_26 : decode cL_law 26 = .ok (.aload_n 0, 1) := by decide +kernel
theorem dL_law_27 : decode cL_law 27 = .ok (.iload_n 3, 1) := by decide +kernel
theorem dL_law_28 : decode cL_law 28 = .ok (.iaload, 1) := by decide +kernel
theorem dL_law_29 : decode cL_law 29 = .ok (.bipush 31, 2) := by decide +kernel
theorem dL_law_31 : decode cL_law 31 = .ok (.iand, 1) := by decide +kernel
theorem dL_law_32 : decode cL_law 32 = .ok (.tableswitch 765 0 26 #[124, 147, 160, 173, 186, 219, 252, 275, 298, 331, 354, 377, 390, 413, 436, 469, 482, 495, 528, 541, 564, 597, 620, 673, 716, 729, 742], 124) := by decide +kernel
theorem dL_law_156 : decode cL_law 156 = .ok (.aload_n 1, 1) := by decide +kernel
theorem dL_law_157 : decode cL_law 157 = .ok (.aload_n 0, 1) := by decide +kernel
theorem dL_law_158 : decode cL_law 158 = .ok (.iload_n 3, 1) := by decide +kernel
theorem dL_law_159 : decode cL_law 159 = .ok (.iconst 1, 1) := by decide +kernel
theorem dL_law_160 : decode cL_law 160 = .ok (.iadd, 1) := by decide +kernel
theorem dL_law_161 : decode cL_law 161 = .ok (.iaload, 1) := by decide +kernel
theorem dL_law_162 : decode cL_law 162 = .ok (.invokevirtual 13, 3) := by decide +kernel
theorem dL_law_165 : decode cL_law 165 = .ok (.aload_n 2, 1) := by decide +kernel
theorem dL_law_166 : decode cL_law 166 = .ok (.aload_n 0, 1) := by decide +kernel
theorem dL_law_167 : decode cL_law 167 = .ok (.iload_n 3, 1) := by decide +kernel
theorem dL_law_168 : decode cL_law 168 = .ok (.iconst 1, 1) := by decide +kernel
theorem dL_law_169 : decode cL_law 169 = .ok (.iadd, 1) := by decide +kernel
theorem dL_law_170 : decode cL_law 170 = .ok (.iaload, 1) := by decide +kernel
theorem dL_law_171 : decode cL_law 171 = .ok (.invokevirtual 17, 3) := by decide +kernel
theorem dL_law_174 : decode cL_law 174 = .ok (.if_icmp .eq 623, 3) := by decide +kernel
theorem dL_law_177 : decode cL_law 177 = .ok (.iconst 0, 1) := by decide +kernel
theorem dL_law_178 : decode cL_law 178 = .ok (.ireturn, 1) := by decide +kernel
theorem dL_law_179 : decode cL_law 179 = .ok (.aload_n 1, 1) := by decide +kernel
theorem dL_law_180 : decode cL_law 180 = .ok (.invokevirtual 18, 3) := by decide +kernel
theorem dL_law_183 : decode cL_law 183 = .ok (.aload_n 2, 1) := by decide +kernel
theorem dL_law_184 : decode cL_law 184 = .ok (.invokevirtual 22, 3) := by decide +kernel
theorem dL_law_187 : decode cL_law 187 = .ok (.if_icmp .eq 610, 3) := by decide +kernel
theorem dL_law_190 : decode cL_law 190 = .ok (.iconst 0, 1) := by decide +kernel
theorem dL_law_191 : decode cL_law 191 = .ok (.ireturn, 1) := by decide +kernel
theorem dL_law_192 : decode cL_law 192 = .ok (.aload_n 1, 1) := by decide +kernel
theorem dL_law_193 : decode cL_law 193 = .ok (.invokevirtual 23, 3) := by decide +kernel
theorem dL_law_196 : decode cL_law 196 = .ok (.aload_n 2, 1) := by decide +kernel
theorem dL_law_197 : decode cL_law 197 = .ok (.invokevirtual 26, 3) := by decide +kernel
theorem dL_law_200 : decode cL_law 200 = .ok (.if_icmp .eq 597, 3) := by decide +kernel
theorem dL_law_203 : decode cL_law 203 = .ok (.iconst 0, 1) := by decide +kernel
theorem dL_law_204 : decode cL_law 204 = .ok (.ireturn, 1) := by decide +kernel
theorem dL_law_205 : decode cL_law 205 = .ok (.aload_n 1, 1) := by decide +kernel
theorem dL_law_206 : decode cL_law 206 = .ok (.invokevirtual 27, 3) := by decide +kernel
theorem dL_law_209 : decode cL_law 209 = .ok (.aload_n 2, 1) := by decide +kernel
theorem dL_law_210 : decode cL_law 210 = .ok (.invokevirtual 30, 3) := by decide +kernel
theorem dL_law_213 : decode cL_law 213 = .ok (.if_icmp .eq 584, 3) := by decide +kernel
theorem dL_law_216 : decode cL_law 216 = .ok (.iconst 0, 1) := by decide +kernel
theorem dL_law_217 : decode cL_law 217 = .ok (.ireturn, 1) := by decide +kernel
theorem dL_law_218 : decode cL_law 218 = .ok (.aload_n 1, 1) := by decide +kernel
theorem dL_law_219 : decode cL_law 219 = .ok (.aload_n 0, 1) := by decide +kernel
theorem dL_law_220 : decode cL_law 220 = .ok (.iload_n 3, 1) := by decide +kernel
theorem dL_law_221 : decode cL_law 221 = .ok (.iconst 1, 1) := by decide +kernel
theorem dL_law_222 : decode cL_law 222 = .ok (.iadd, 1) := by decide +kernel
theorem dL_law_223 : decode cL_law 223 = .ok (.iaload, 1) := by decide +kernel
theorem dL_law_224 : decode cL_law 224 = .ok (.aload_n 0, 1) := by decide +kernel
theorem dL_law_225 : decode cL_law 225 = .ok (.iload_n 3, 1) := by decide +kernel
theorem dL_law_226 : decode cL_law 226 = .ok (.iconst 2, 1) := by decide +kernel
theorem dL_law_227 : decode cL_law 227 = .ok (.iadd, 1) := by decide +kernel
theorem dL_law_228 : decode cL_law 228 = .ok (.iaload, 1) := by decide +kernel
theorem dL_law_229 : decode cL_law 229 = .ok (.invokevirtual 31, 3) := by decide +kernel
theorem dL_law_232 : decode cL_law 232 = .ok (.aload_n 2, 1) := by decide +kernel
theorem dL_law_233 : decode cL_law 233 = .ok (.aload_n 0, 1) := by decide +kernel
theorem dL_law_234 : decode cL_law 234 = .ok (.iload_n 3, 1) := by decide +kernel
theorem dL_law_235 : decode cL_law 235 = .ok (.iconst 1, 1) := by decide +kernel
theorem dL_law_236 : decode cL_law 236 = .ok (.iadd, 1) := by decide +kernel
theorem dL_law_237 : decode cL_law 237 = .ok (.iaload, 1) := by decide +kernel
theorem dL_law_238 : decode cL_law 238 = .ok (.aload_n 0, 1) := by decide +kernel
theorem dL_law_239 : decode cL_law 239 = .ok (.iload_n 3, 1) := by decide +kernel
theorem dL_law_240 : decode cL_law 240 = .ok (.iconst 2, 1) := by decide +kernel
theorem dL_law_241 : decode cL_law 241 = .ok (.iadd, 1) := by decide +kernel
theorem dL_law_242 : decode cL_law 242 = .ok (.iaload, 1) := by decide +kernel
theorem dL_law_243 : decode cL_law 243 = .ok (.invokevirtual 35, 3) := by decide +kernel
theorem dL_law_246 : decode cL_law 246 = .ok (.if_icmp .eq 551, 3) := by decide +kernel
theorem dL_law_249 : decode cL_law 249 = .ok (.iconst 0, 1) := by decide +kernel
theorem dL_law_250 : decode cL_law 250 = .ok (.ireturn, 1) := by decide +kernel
theorem dL_law_251 : decode cL_law 251 = .ok (.aload_n 1, 1) := by decide +kernel
theorem dL_law_252 : decode cL_law 252 = .ok (.aload_n 0, 1) := by decide +kernel
theorem dL_law_253 : decode cL_law 253 = .ok (.iload_n 3, 1) := by decide +kernel
theorem dL_law_254 : decode cL_law 254 = .ok (.iconst 1, 1) := by decide +kernel
theorem dL_law_255 : decode cL_law 255 = .ok (.iadd, 1) := by decide +kernel
theorem dL_law_256 : decode cL_law 256 = .ok (.iaload, 1) := by decide +kernel
theorem dL_law_257 : decode cL_law 257 = .ok (.aload_n 0, 1) := by decide +kernel
theorem dL_law_258 : decode cL_law 258 = .ok (.iload_n 3, 1) := by decide +kernel
theorem dL_law_259 : decode cL_law 259 = .ok (.iconst 2, 1) := by decide +kernel
theorem dL_law_260 : decode cL_law 260 = .ok (.iadd, 1) := by decide +kernel
theorem dL_law_261 : decode cL_law 261 = .ok (.iaload, 1) := by decide +kernel
theorem dL_law_262 : decode cL_law 262 = .ok (.invokevirtual 36, 3) := by decide +kernel
theorem dL_law_265 : decode cL_law 265 = .ok (.aload_n 2, 1) := by decide +kernel
theorem dL_law_266 : decode cL_law 266 = .ok (.aload_n 0, 1) := by decide +kernel
theorem dL_law_267 : decode cL_law 267 = .ok (.iload_n 3, 1) := by decide +kernel
theorem dL_law_268 : decode cL_law 268 = .ok (.iconst 1, 1) := by decide +kernel
theorem dL_law_269 : decode cL_law 269 = .ok (.iadd, 1) := by decide +kernel
theorem dL_law_270 : decode cL_law 270 = .ok (.iaload, 1) := by decide +kernel
theorem dL_law_271 : decode cL_law 271 = .ok (.aload_n 0, 1) := by decide +kernel
theorem dL_law_272 : decode cL_law 272 = .ok (.iload_n 3, 1) := by decide +kernel
theorem dL_law_273 : decode cL_law 273 = .ok (.iconst 2, 1) := by decide +kernel
theorem dL_law_274 : decode cL_law 274 = .ok (.iadd, 1) := by decide +kernel
theorem dL_law_275 : decode cL_law 275 = .ok (.iaload, 1) := by decide +kernel
theorem dL_law_276 : decode cL_law 276 = .ok (.invokevirtual 39, 3) := by decide +kernel
theorem dL_law_279 : decode cL_law 279 = .ok (.if_icmp .eq 518, 3) := by decide +kernel
theorem dL_law_282 : decode cL_law 282 = .ok (.iconst 0, 1) := by decide +kernel
theorem dL_law_283 : decode cL_law 283 = .ok (.ireturn, 1) := by decide +kernel
theorem dL_law_284 : decode cL_law 284 = .ok (.aload_n 1, 1) := by decide +kernel
theorem dL_law_285 : decode cL_law 285 = .ok (.aload_n 0, 1) := by decide +kernel
theorem dL_law_286 : decode cL_law 286 = .ok (.iload_n 3, 1) := by decide +kernel
theorem dL_law_287 : decode cL_law 287 = .ok (.iconst 1, 1) := by decide +kernel
theorem dL_law_288 : decode cL_law 288 = .ok (.iadd, 1) := by decide +kernel
theorem dL_law_289 : decode cL_law 289 = .ok (.iaload, 1) := by decide +kernel
theorem dL_law_290 : decode cL_law 290 = .ok (.invokevirtual 40, 3) := by decide +kernel
theorem dL_law_293 : decode cL_law 293 = .ok (.aload_n 2, 1) := by decide +kernel
theorem dL_law_294 : decode cL_law 294 = .ok (.aload_n 0, 1) := by decide +kernel
theorem dL_law_295 : decode cL_law 295 = .ok (.iload_n 3, 1) := by decide +kernel
theorem dL_law_296 : decode cL_law 296 = .ok (.iconst 1, 1) := by decide +kernel
theorem dL_law_297 : decode cL_law 297 = .ok (.iadd, 1) := by decide +kernel
theorem dL_law_298 : decode cL_law 298 = .ok (.iaload, 1) := by decide +kernel
theorem dL_law_299 : decode cL_law 299 = .ok (.invokevirtual 43, 3) := by decide +kernel
theorem dL_law_302 : decode cL_law 302 = .ok (.if_icmp .eq 495, 3) := by decide +kernel
theorem dL_law_305 : decode cL_law 305 = .ok (.iconst 0, 1) := by decide +kernel
theorem dL_law_306 : decode cL_law 306 = .ok (.ireturn, 1) := by decide +kernel
theorem dL_law_307 : decode cL_law 307 = .ok (.aload_n 1, 1) := by decide +kernel
theorem dL_law_308 : decode cL_law 308 = .ok (.aload_n 0, 1) := by decide +kernel
theorem dL_law_309 : decode cL_law 309 = .ok (.iload_n 3, 1) := by decide +kernel
theorem dL_law_310 : decode cL_law 310 = .ok (.iconst 1, 1) := by decide +kernel
theorem dL_law_311 : decode cL_law 311 = .ok (.iadd, 1) := by decide +kernel
theorem dL_law_312 : decode cL_law 312 = .ok (.iaload, 1) := by decide +kernel
theorem dL_law_313 : decode cL_law 313 = .ok (.invokevirtual 44, 3) := by decide +kernel
theorem dL_law_316 : decode cL_law 316 = .ok (.aload_n 2, 1) := by decide +kernel
theorem dL_law_317 : decode cL_law 317 = .ok (.aload_n 0, 1) := by decide +kernel
theorem dL_law_318 : decode cL_law 318 = .ok (.iload_n 3, 1) := by decide +kernel
theorem dL_law_319 : decode cL_law 319 = .ok (.iconst 1, 1) := by decide +kernel
theorem dL_law_320 : decode cL_law 320 = .ok (.iadd, 1) := by decide +kernel
theorem dL_law_321 : decode cL_law 321 = .ok (.iaload, 1) := by decide +kernel
theorem dL_law_322 : decode cL_law 322 = .ok (.invokevirtual 47, 3) := by decide +kernel
theorem dL_law_325 : decode cL_law 325 = .ok (.if_icmp .eq 472, 3) := by decide +kernel
theorem dL_law_328 : decode cL_law 328 = .ok (.iconst 0, 1) := by decide +kernel
theorem dL_law_329 : decode cL_law 329 = .ok (.ireturn, 1) := by decide +kernel
theorem dL_law_330 : decode cL_law 330 = .ok (.aload_n 1, 1) := by decide +kernel
theorem dL_law_331 : decode cL_law 331 = .ok (.aload_n 0, 1) := by decide +kernel
theorem dL_law_332 : decode cL_law 332 = .ok (.iload_n 3, 1) := by decide +kernel
theorem dL_law_333 : decode cL_law 333 = .ok (.iconst 1, 1) := by decide +kernel
theorem dL_law_334 : decode cL_law 334 = .ok (.iadd, 1) := by decide +kernel
theorem dL_law_335 : decode cL_law 335 = .ok (.iaload, 1) := by decide +kernel
theorem dL_law_336 : decode cL_law 336 = .ok (.aload_n 0, 1) := by decide +kernel
theorem dL_law_337 : decode cL_law 337 = .ok (.iload_n 3, 1) := by decide +kernel
theorem dL_law_338 : decode cL_law 338 = .ok (.iconst 2, 1) := by decide +kernel
theorem dL_law_339 : decode cL_law 339 = .ok (.iadd, 1) := by decide +kernel
theorem dL_law_340 : decode cL_law 340 = .ok (.iaload, 1) := by decide +kernel
theorem dL_law_341 : decode cL_law 341 = .ok (.invokevirtual 48, 3) := by decide +kernel
theorem dL_law_344 : decode cL_law 344 = .ok (.aload_n 2, 1) := by decide +kernel
theorem dL_law_345 : decode cL_law 345 = .ok (.aload_n 0, 1) := by decide +kernel
theorem dL_law_346 : decode cL_law 346 = .ok (.iload_n 3, 1) := by decide +kernel
theorem dL_law_347 : decode cL_law 347 = .ok (.iconst 1, 1) := by decide +kernel
theorem dL_law_348 : decode cL_law 348 = .ok (.iadd, 1) := by decide +kernel
theorem dL_law_349 : decode cL_law 349 = .ok (.iaload, 1) := by decide +kernel
theorem dL_law_350 : decode cL_law 350 = .ok (.aload_n 0, 1) := by decide +kernel
theorem dL_law_351 : decode cL_law 351 = .ok (.iload_n 3, 1) := by decide +kernel
theorem dL_law_352 : decode cL_law 352 = .ok (.iconst 2, 1) := by decide +kernel
theorem dL_law_353 : decode cL_law 353 = .ok (.iadd, 1) := by decide +kernel
theorem dL_law_354 : decode cL_law 354 = .ok (.iaload, 1) := by decide +kernel
theorem dL_law_355 : decode cL_law 355 = .ok (.invokevirtual 51, 3) := by decide +kernel
theorem dL_law_358 : decode cL_law 358 = .ok (.if_icmp .eq 439, 3) := by decide +kernel
theorem dL_law_361 : decode cL_law 361 = .ok (.iconst 0, 1) := by decide +kernel
theorem dL_law_362 : decode cL_law 362 = .ok (.ireturn, 1) := by decide +kernel
theorem dL_law_363 : decode cL_law 363 = .ok (.aload_n 1, 1) := by decide +kernel
theorem dL_law_364 : decode cL_law 364 = .ok (.aload_n 0, 1) := by decide +kernel
theorem dL_law_365 : decode cL_law 365 = .ok (.iload_n 3, 1) := by decide +kernel
theorem dL_law_366 : decode cL_law 366 = .ok (.iconst 1, 1) := by decide +kernel
theorem dL_law_367 : decode cL_law 367 = .ok (.iadd, 1) := by decide +kernel
theorem dL_law_368 : decode cL_law 368 = .ok (.iaload, 1) := by decide +kernel
theorem dL_law_369 : decode cL_law 369 = .ok (.invokevirtual 52, 3) := by decide +kernel
theorem dL_law_372 : decode cL_law 372 = .ok (.aload_n 2, 1) := by decide +kernel
theorem dL_law_373 : decode cL_law 373 = .ok (.aload_n 0, 1) := by decide +kernel
theorem dL_law_374 : decode cL_law 374 = .ok (.iload_n 3, 1) := by decide +kernel
theorem dL_law_375 : decode cL_law 375 = .ok (.iconst 1, 1) := by decide +kernel
theorem dL_law_376 : decode cL_law 376 = .ok (.iadd, 1) := by decide +kernel
theorem dL_law_377 : decode cL_law 377 = .ok (.iaload, 1) := by decide +kernel
theorem dL_law_378 : decode cL_law 378 = .ok (.invokevirtual 55, 3) := by decide +kernel
theorem dL_law_381 : decode cL_law 381 = .ok (.if_icmp .eq 416, 3) := by decide +kernel
theorem dL_law_384 : decode cL_law 384 = .ok (.iconst 0, 1) := by decide +kernel
theorem dL_law_385 : decode cL_law 385 = .ok (.ireturn, 1) := by decide +kernel
theorem dL_law_386 : decode cL_law 386 = .ok (.aload_n 1, 1) := by decide +kernel
theorem dL_law_387 : decode cL_law 387 = .ok (.aload_n 0, 1) := by decide +kernel
theorem dL_law_388 : decode cL_law 388 = .ok (.iload_n 3, 1) := by decide +kernel
theorem dL_law_389 : decode cL_law 389 = .ok (.iconst 1, 1) := by decide +kernel
theorem dL_law_390 : decode cL_law 390 = .ok (.iadd, 1) := by decide +kernel
theorem dL_law_391 : decode cL_law 391 = .ok (.iaload, 1) := by decide +kernel
theorem dL_law_392 : decode cL_law 392 = .ok (.invokevirtual 56, 3) := by decide +kernel
theorem dL_law_395 : decode cL_law 395 = .ok (.aload_n 2, 1) := by decide +kernel
theorem dL_law_396 : decode cL_law 396 = .ok (.aload_n 0, 1) := by decide +kernel
theorem dL_law_397 : decode cL_law 397 = .ok (.iload_n 3, 1) := by decide +kernel
theorem dL_law_398 : decode cL_law 398 = .ok (.iconst 1, 1) := by decide +kernel
theorem dL_law_399 : decode cL_law 399 = .ok (.iadd, 1) := by decide +kernel
theorem dL_law_400 : decode cL_law 400 = .ok (.iaload, 1) := by decide +kernel
theorem dL_law_401 : decode cL_law 401 = .ok (.invokevirtual 59, 3) := by decide +kernel
theorem dL_law_404 : decode cL_law 404 = .ok (.if_icmp .eq 393, 3) := by decide +kernel
theorem dL_law_407 : decode cL_law 407 = .ok (.iconst 0, 1) := by decide +kernel
theorem dL_law_408 : decode cL_law 408 = .ok (.ireturn, 1) := by decide +kernel
theorem dL_law_409 : decode cL_law 409 = .ok (.aload_n 1, 1) := by decide +kernel
theorem dL_law_410 : decode cL_law 410 = .ok (.invokevirtual 60, 3) := by decide +kernel
theorem dL_law_413 : decode cL_law 413 = .ok (.aload_n 2, 1) := by decide +kernel
theorem dL_law_414 : decode cL_law 414 = .ok (.invokevirtual 63, 3) := by decide +kernel
theorem dL_law_417 : decode cL_law 417 = .ok (.if_icmp .eq 380, 3) := by decide +kernel
theorem dL_law_420 : decode cL_law 420 = .ok (.iconst 0, 1) := by decide +kernel
theorem dL_law_421 : decode cL_law 421 = .ok (.ireturn, 1) := by decide +kernel
theorem dL_law_422 : decode cL_law 422 = .ok (.aload_n 1, 1) := by decide +kernel
theorem dL_law_423 : decode cL_law 423 = .ok (.aload_n 0, 1) := by decide +kernel
theorem dL_law_424 : decode cL_law 424 = .ok (.iload_n 3, 1) := by decide +kernel
theorem dL_law_425 : decode cL_law 425 = .ok (.iconst 1, 1) := by decide +kernel
theorem dL_law_426 : decode cL_law 426 = .ok (.iadd, 1) := by decide +kernel
theorem dL_law_427 : decode cL_law 427 = .ok (.iaload, 1) := by decide +kernel
theorem dL_law_428 : decode cL_law 428 = .ok (.invokevirtual 64, 3) := by decide +kernel
theorem dL_law_431 : decode cL_law 431 = .ok (.aload_n 2, 1) := by decide +kernel
theorem dL_law_432 : decode cL_law 432 = .ok (.aload_n 0, 1) := by decide +kernel
theorem dL_law_433 : decode cL_law 433 = .ok (.iload_n 3, 1) := by decide +kernel
theorem dL_law_434 : decode cL_law 434 = .ok (.iconst 1, 1) := by decide +kernel
theorem dL_law_435 : decode cL_law 435 = .ok (.iadd, 1) := by decide +kernel
theorem dL_law_436 : decode cL_law 436 = .ok (.iaload, 1) := by decide +kernel
theorem dL_law_437 : decode cL_law 437 = .ok (.invokevirtual 67, 3) := by decide +kernel
theorem dL_law_440 : decode cL_law 440 = .ok (.if_icmp .eq 357, 3) := by decide +kernel
theorem dL_law_443 : decode cL_law 443 = .ok (.iconst 0, 1) := by decide +kernel
theorem dL_law_444 : decode cL_law 444 = .ok (.ireturn, 1) := by decide +kernel
theorem dL_law_445 : decode cL_law 445 = .ok (.aload_n 1, 1) := by decide +kernel
theorem dL_law_446 : decode cL_law 446 = .ok (.aload_n 0, 1) := by decide +kernel
theorem dL_law_447 : decode cL_law 447 = .ok (.iload_n 3, 1) := by decide +kernel
theorem dL_law_448 : decode cL_law 448 = .ok (.iconst 1, 1) := by decide +kernel
theorem dL_law_449 : decode cL_law 449 = .ok (.iadd, 1) := by decide +kernel
theorem dL_law_450 : decode cL_law 450 = .ok (.iaload, 1) := by decide +kernel
theorem dL_law_451 : decode cL_law 451 = .ok (.invokevirtual 68, 3) := by decide +kernel
theorem dL_law_454 : decode cL_law 454 = .ok (.aload_n 2, 1) := by decide +kernel
theorem dL_law_455 : decode cL_law 455 = .ok (.aload_n 0, 1) := by decide +kernel
theorem dL_law_456 : decode cL_law 456 = .ok (.iload_n 3, 1) := by decide +kernel
theorem dL_law_457 : decode cL_law 457 = .ok (.iconst 1, 1) := by decide +kernel
theorem dL_law_458 : decode cL_law 458 = .ok (.iadd, 1) := by decide +kernel
theorem dL_law_459 : decode cL_law 459 = .ok (.iaload, 1) := by decide +kernel
theorem dL_law_460 : decode cL_law 460 = .ok (.invokevirtual 71, 3) := by decide +kernel
theorem dL_law_463 : decode cL_law 463 = .ok (.if_icmp .eq 334, 3) := by decide +kernel
theorem dL_law_466 : decode cL_law 466 = .ok (.iconst 0, 1) := by decide +kernel
theorem dL_law_467 : decode cL_law 467 = .ok (.ireturn, 1) := by decide +kernel
theorem dL_law_468 : decode cL_law 468 = .ok (.aload_n 1, 1) := by decide +kernel
theorem dL_law_469 : decode cL_law 469 = .ok (.aload_n 0, 1) := by decide +kernel
theorem dL_law_470 : decode cL_law 470 = .ok (.iload_n 3, 1) := by decide +kernel
theorem dL_law_471 : decode cL_law 471 = .ok (.iconst 1, 1) := by decide +kernel
theorem dL_law_472 : decode cL_law 472 = .ok (.iadd, 1) := by decide +kernel
theorem dL_law_473 : decode cL_law 473 = .ok (.iaload, 1) := by decide +kernel
theorem dL_law_474 : decode cL_law 474 = .ok (.aload_n 0, 1) := by decide +kernel
theorem dL_law_475 : decode cL_law 475 = .ok (.iload_n 3, 1) := by decide +kernel
theorem dL_law_476 : decode cL_law 476 = .ok (.iconst 2, 1) := by decide +kernel
theorem dL_law_477 : decode cL_law 477 = .ok (.iadd, 1) := by decide +kernel
theorem dL_law_478 : decode cL_law 478 = .ok (.iaload, 1) := by decide +kernel
theorem dL_law_479 : decode cL_law 479 = .ok (.invokevirtual 72, 3) := by decide +kernel
theorem dL_law_482 : decode cL_law 482 = .ok (.aload_n 2, 1) := by decide +kernel
theorem dL_law_483 : decode cL_law 483 = .ok (.aload_n 0, 1) := by decide +kernel
theorem dL_law_484 : decode cL_law 484 = .ok (.iload_n 3, 1) := by decide +kernel
theorem dL_law_485 : decode cL_law 485 = .ok (.iconst 1, 1) := by decide +kernel
theorem dL_law_486 : decode cL_law 486 = .ok (.iadd, 1) := by decide +kernel
theorem dL_law_487 : decode cL_law 487 = .ok (.iaload, 1) := by decide +kernel
theorem dL_law_488 : decode cL_law 488 = .ok (.aload_n 0, 1) := by decide +kernel
theorem dL_law_489 : decode cL_law 489 = .ok (.iload_n 3, 1) := by decide +kernel
theorem dL_law_490 : decode cL_law 490 = .ok (.iconst 2, 1) := by decide +kernel
theorem dL_law_491 : decode cL_law 491 = .ok (.iadd, 1) := by decide +kernel
theorem dL_law_492 : decode cL_law 492 = .ok (.iaload, 1) := by decide +kernel
theorem dL_law_493 : decode cL_law 493 = .ok (.invokevirtual 75, 3) := by decide +kernel
theorem dL_law_496 : decode cL_law 496 = .ok (.if_icmp .eq 301, 3) := by decide +kernel
theorem dL_law_499 : decode cL_law 499 = .ok (.iconst 0, 1) := by decide +kernel
theorem dL_law_500 : decode cL_law 500 = .ok (.ireturn, 1) := by decide +kernel
theorem dL_law_501 : decode cL_law 501 = .ok (.aload_n 1, 1) := by decide +kernel
theorem dL_law_502 : decode cL_law 502 = .ok (.invokevirtual 76, 3) := by decide +kernel
theorem dL_law_505 : decode cL_law 505 = .ok (.aload_n 2, 1) := by decide +kernel
theorem dL_law_506 : decode cL_law 506 = .ok (.invokevirtual 79, 3) := by decide +kernel
theorem dL_law_509 : decode cL_law 509 = .ok (.if_icmp .eq 288, 3) := by decide +kernel
theorem dL_law_512 : decode cL_law 512 = .ok (.iconst 0, 1) := by decide +kernel
theorem dL_law_513 : decode cL_law 513 = .ok (.ireturn, 1) := by decide +kernel
theorem dL_law_514 : decode cL_law 514 = .ok (.aload_n 1, 1) := by decide +kernel
theorem dL_law_515 : decode cL_law 515 = .ok (.invokevirtual 80, 3) := by decide +kernel
theorem dL_law_518 : decode cL_law 518 = .ok (.aload_n 2, 1) := by decide +kernel
theorem dL_law_519 : decode cL_law 519 = .ok (.invokevirtual 83, 3) := by decide +kernel
theorem dL_law_522 : decode cL_law 522 = .ok (.if_icmp .eq 275, 3) := by decide +kernel
theorem dL_law_525 : decode cL_law 525 = .ok (.iconst 0, 1) := by decide +kernel
theorem dL_law_526 : decode cL_law 526 = .ok (.ireturn, 1) := by decide +kernel
theorem dL_law_527 : decode cL_law 527 = .ok (.aload_n 1, 1) := by decide +kernel
theorem dL_law_528 : decode cL_law 528 = .ok (.aload_n 0, 1) := by decide +kernel
theorem dL_law_529 : decode cL_law 529 = .ok (.iload_n 3, 1) := by decide +kernel
theorem dL_law_530 : decode cL_law 530 = .ok (.iconst 1, 1) := by decide +kernel
theorem dL_law_531 : decode cL_law 531 = .ok (.iadd, 1) := by decide +kernel
theorem dL_law_532 : decode cL_law 532 = .ok (.iaload, 1) := by decide +kernel
theorem dL_law_533 : decode cL_law 533 = .ok (.aload_n 0, 1) := by decide +kernel
theorem dL_law_534 : decode cL_law 534 = .ok (.iload_n 3, 1) := by decide +kernel
theorem dL_law_535 : decode cL_law 535 = .ok (.iconst 2, 1) := by decide +kernel
theorem dL_law_536 : decode cL_law 536 = .ok (.iadd, 1) := by decide +kernel
theorem dL_law_537 : decode cL_law 537 = .ok (.iaload, 1) := by decide +kernel
theorem dL_law_538 : decode cL_law 538 = .ok (.invokevirtual 84, 3) := by decide +kernel
theorem dL_law_541 : decode cL_law 541 = .ok (.aload_n 2, 1) := by decide +kernel
theorem dL_law_542 : decode cL_law 542 = .ok (.aload_n 0, 1) := by decide +kernel
theorem dL_law_543 : decode cL_law 543 = .ok (.iload_n 3, 1) := by decide +kernel
theorem dL_law_544 : decode cL_law 544 = .ok (.iconst 1, 1) := by decide +kernel
theorem dL_law_545 : decode cL_law 545 = .ok (.iadd, 1) := by decide +kernel
theorem dL_law_546 : decode cL_law 546 = .ok (.iaload, 1) := by decide +kernel
theorem dL_law_547 : decode cL_law 547 = .ok (.aload_n 0, 1) := by decide +kernel
theorem dL_law_548 : decode cL_law 548 = .ok (.iload_n 3, 1) := by decide +kernel
theorem dL_law_549 : decode cL_law 549 = .ok (.iconst 2, 1) := by decide +kernel
theorem dL_law_550 : decode cL_law 550 = .ok (.iadd, 1) := by decide +kernel
theorem dL_law_551 : decode cL_law 551 = .ok (.iaload, 1) := by decide +kernel
theorem dL_law_552 : decode cL_law 552 = .ok (.invokevirtual 87, 3) := by decide +kernel
theorem dL_law_555 : decode cL_law 555 = .ok (.if_icmp .eq 242, 3) := by decide +kernel
theorem dL_law_558 : decode cL_law 558 = .ok (.iconst 0, 1) := by decide +kernel
theorem dL_law_559 : decode cL_law 559 = .ok (.ireturn, 1) := by decide +kernel
theorem dL_law_560 : decode cL_law 560 = .ok (.aload_n 1, 1) := by decide +kernel
theorem dL_law_561 : decode cL_law 561 = .ok (.invokevirtual 88, 3) := by decide +kernel
theorem dL_law_564 : decode cL_law 564 = .ok (.aload_n 2, 1) := by decide +kernel
theorem dL_law_565 : decode cL_law 565 = .ok (.invokevirtual 91, 3) := by decide +kernel
theorem dL_law_568 : decode cL_law 568 = .ok (.if_icmp .eq 229, 3) := by decide +kernel
theorem dL_law_571 : decode cL_law 571 = .ok (.iconst 0, 1) := by decide +kernel
theorem dL_law_572 : decode cL_law 572 = .ok (.ireturn, 1) := by decide +kernel
theorem dL_law_573 : decode cL_law 573 = .ok (.aload_n 1, 1) := by decide +kernel
theorem dL_law_574 : decode cL_law 574 = .ok (.aload_n 0, 1) := by decide +kernel
theorem dL_law_575 : decode cL_law 575 = .ok (.iload_n 3, 1) := by decide +kernel
theorem dL_law_576 : decode cL_law 576 = .ok (.iconst 1, 1) := by decide +kernel
theorem dL_law_577 : decode cL_law 577 = .ok (.iadd, 1) := by decide +kernel
theorem dL_law_578 : decode cL_law 578 = .ok (.iaload, 1) := by decide +kernel
theorem dL_law_579 : decode cL_law 579 = .ok (.invokevirtual 92, 3) := by decide +kernel
theorem dL_law_582 : decode cL_law 582 = .ok (.aload_n 2, 1) := by decide +kernel
theorem dL_law_583 : decode cL_law 583 = .ok (.aload_n 0, 1) := by decide +kernel
theorem dL_law_584 : decode cL_law 584 = .ok (.iload_n 3, 1) := by decide +kernel
theorem dL_law_585 : decode cL_law 585 = .ok (.iconst 1, 1) := by decide +kernel
theorem dL_law_586 : decode cL_law 586 = .ok (.iadd, 1) := by decide +kernel
theorem dL_law_587 : decode cL_law 587 = .ok (.iaload, 1) := by decide +kernel
theorem dL_law_588 : decode cL_law 588 = .ok (.invokevirtual 95, 3) := by decide +kernel
theorem dL_law_591 : decode cL_law 591 = .ok (.if_icmp .eq 206, 3) := by decide +kernel
theorem dL_law_594 : decode cL_law 594 = .ok (.iconst 0, 1) := by decide +kernel
theorem dL_law_595 : decode cL_law 595 = .ok (.ireturn, 1) := by decide +kernel
theorem dL_law_596 : decode cL_law 596 = .ok (.aload_n 1, 1) := by decide +kernel
theorem dL_law_597 : decode cL_law 597 = .ok (.aload_n 0, 1) := by decide +kernel
theorem dL_law_598 : decode cL_law 598 = .ok (.iload_n 3, 1) := by decide +kernel
theorem dL_law_599 : decode cL_law 599 = .ok (.iconst 1, 1) := by decide +kernel
theorem dL_law_600 : decode cL_law 600 = .ok (.iadd, 1) := by decide +kernel
theorem dL_law_601 : decode cL_law 601 = .ok (.iaload, 1) := by decide +kernel
theorem dL_law_602 : decode cL_law 602 = .ok (.aload_n 0, 1) := by decide +kernel
theorem dL_law_603 : decode cL_law 603 = .ok (.iload_n 3, 1) := by decide +kernel
theorem dL_law_604 : decode cL_law 604 = .ok (.iconst 2, 1) := by decide +kernel
theorem dL_law_605 : decode cL_law 605 = .ok (.iadd, 1) := by decide +kernel
theorem dL_law_606 : decode cL_law 606 = .ok (.iaload, 1) := by decide +kernel
theorem dL_law_607 : decode cL_law 607 = .ok (.invokevirtual 96, 3) := by decide +kernel
theorem dL_law_610 : decode cL_law 610 = .ok (.aload_n 2, 1) := by decide +kernel
theorem dL_law_611 : decode cL_law 611 = .ok (.aload_n 0, 1) := by decide +kernel
theorem dL_law_612 : decode cL_law 612 = .ok (.iload_n 3, 1) := by decide +kernel
theorem dL_law_613 : decode cL_law 613 = .ok (.iconst 1, 1) := by decide +kernel
theorem dL_law_614 : decode cL_law 614 = .ok (.iadd, 1) := by decide +kernel
theorem dL_law_615 : decode cL_law 615 = .ok (.iaload, 1) := by decide +kernel
theorem dL_law_616 : decode cL_law 616 = .ok (.aload_n 0, 1) := by decide +kernel
theorem dL_law_617 : decode cL_law 617 = .ok (.iload_n 3, 1) := by decide +kernel
theorem dL_law_618 : decode cL_law 618 = .ok (.iconst 2, 1) := by decide +kernel
theorem dL_law_619 : decode cL_law 619 = .ok (.iadd, 1) := by decide +kernel
theorem dL_law_620 : decode cL_law 620 = .ok (.iaload, 1) := by decide +kernel
theorem dL_law_621 : decode cL_law 621 = .ok (.invokevirtual 99, 3) := by decide +kernel
theorem dL_law_624 : decode cL_law 624 = .ok (.if_icmp .eq 173, 3) := by decide +kernel
theorem dL_law_627 : decode cL_law 627 = .ok (.iconst 0, 1) := by decide +kernel
theorem dL_law_628 : decode cL_law 628 = .ok (.ireturn, 1) := by decide +kernel
theorem dL_law_629 : decode cL_law 629 = .ok (.aload_n 1, 1) := by decide +kernel
theorem dL_law_630 : decode cL_law 630 = .ok (.aload_n 0, 1) := by decide +kernel
theorem dL_law_631 : decode cL_law 631 = .ok (.iload_n 3, 1) := by decide +kernel
theorem dL_law_632 : decode cL_law 632 = .ok (.iconst 1, 1) := by decide +kernel
theorem dL_law_633 : decode cL_law 633 = .ok (.iadd, 1) := by decide +kernel
theorem dL_law_634 : decode cL_law 634 = .ok (.iaload, 1) := by decide +kernel
theorem dL_law_635 : decode cL_law 635 = .ok (.invokevirtual 100, 3) := by decide +kernel
theorem dL_law_638 : decode cL_law 638 = .ok (.aload_n 2, 1) := by decide +kernel
theorem dL_law_639 : decode cL_law 639 = .ok (.aload_n 0, 1) := by decide +kernel
theorem dL_law_640 : decode cL_law 640 = .ok (.iload_n 3, 1) := by decide +kernel
theorem dL_law_641 : decode cL_law 641 = .ok (.iconst 1, 1) := by decide +kernel
theorem dL_law_642 : decode cL_law 642 = .ok (.iadd, 1) := by decide +kernel
theorem dL_law_643 : decode cL_law 643 = .ok (.iaload, 1) := by decide +kernel
theorem dL_law_644 : decode cL_law 644 = .ok (.invokevirtual 103, 3) := by decide +kernel
theorem dL_law_647 : decode cL_law 647 = .ok (.if_icmp .eq 150, 3) := by decide +kernel
theorem dL_law_650 : decode cL_law 650 = .ok (.iconst 0, 1) := by decide +kernel
theorem dL_law_651 : decode cL_law 651 = .ok (.ireturn, 1) := by decide +kernel
theorem dL_law_652 : decode cL_law 652 = .ok (.aload_n 1, 1) := by decide +kernel
theorem dL_law_653 : decode cL_law 653 = .ok (.aload_n 0, 1) := by decide +kernel
theorem dL_law_654 : decode cL_law 654 = .ok (.iload_n 3, 1) := by decide +kernel
theorem dL_law_655 : decode cL_law 655 = .ok (.iconst 1, 1) := by decide +kernel
theorem dL_law_656 : decode cL_law 656 = .ok (.iadd, 1) := by decide +kernel
theorem dL_law_657 : decode cL_law 657 = .ok (.iaload, 1) := by decide +kernel
theorem dL_law_658 : decode cL_law 658 = .ok (.aload_n 0, 1) := by decide +kernel
theorem dL_law_659 : decode cL_law 659 = .ok (.iload_n 3, 1) := by decide +kernel
theorem dL_law_660 : decode cL_law 660 = .ok (.iconst 2, 1) := by decide +kernel
theorem dL_law_661 : decode cL_law 661 = .ok (.iadd, 1) := by decide +kernel
theorem dL_law_662 : decode cL_law 662 = .ok (.iaload, 1) := by decide +kernel
theorem dL_law_663 : decode cL_law 663 = .ok (.aload_n 0, 1) := by decide +kernel
theorem dL_law_664 : decode cL_law 664 = .ok (.iload_n 3, 1) := by decide +kernel
theorem dL_law_665 : decode cL_law 665 = .ok (.iconst 3, 1) := by decide +kernel
theorem dL_law_666 : decode cL_law 666 = .ok (.iadd, 1) := by decide +kernel
theorem dL_law_667 : decode cL_law 667 = .ok (.iaload, 1) := by decide +kernel
theorem dL_law_668 : decode cL_law 668 = .ok (.aload_n 0, 1) := by decide +kernel
theorem dL_law_669 : decode cL_law 669 = .ok (.iload_n 3, 1) := by decide +kernel
theorem dL_law_670 : decode cL_law 670 = .ok (.iconst 4, 1) := by decide +kernel
theorem dL_law_671 : decode cL_law 671 = .ok (.iadd, 1) := by decide +kernel
theorem dL_law_672 : decode cL_law 672 = .ok (.iaload, 1) := by decide +kernel
theorem dL_law_673 : decode cL_law 673 = .ok (.invokevirtual 104, 3) := by decide +kernel
theorem dL_law_676 : decode cL_law 676 = .ok (.aload_n 2, 1) := by decide +kernel
theorem dL_law_677 : decode cL_law 677 = .ok (.aload_n 0, 1) := by decide +kernel
theorem dL_law_678 : decode cL_law 678 = .ok (.iload_n 3, 1) := by decide +kernel
theorem dL_law_679 : decode cL_law 679 = .ok (.iconst 1, 1) := by decide +kernel
theorem dL_law_680 : decode cL_law 680 = .ok (.iadd, 1) := by decide +kernel
theorem dL_law_681 : decode cL_law 681 = .ok (.iaload, 1) := by decide +kernel
theorem dL_law_682 : decode cL_law 682 = .ok (.aload_n 0, 1) := by decide +kernel
theorem dL_law_683 : decode cL_law 683 = .ok (.iload_n 3, 1) := by decide +kernel
theorem dL_law_684 : decode cL_law 684 = .ok (.iconst 2, 1) := by decide +kernel
theorem dL_law_685 : decode cL_law 685 = .ok (.iadd, 1) := by decide +kernel
theorem dL_law_686 : decode cL_law 686 = .ok (.iaload, 1) := by decide +kernel
theorem dL_law_687 : decode cL_law 687 = .ok (.aload_n 0, 1) := by decide +kernel
theorem dL_law_688 : decode cL_law 688 = .ok (.iload_n 3, 1) := by decide +kernel
theorem dL_law_689 : decode cL_law 689 = .ok (.iconst 3, 1) := by decide +kernel
theorem dL_law_690 : decode cL_law 690 = .ok (.iadd, 1) := by decide +kernel
theorem dL_law_691 : decode cL_law 691 = .ok (.iaload, 1) := by decide +kernel
theorem dL_law_692 : decode cL_law 692 = .ok (.aload_n 0, 1) := by decide +kernel
theorem dL_law_693 : decode cL_law 693 = .ok (.iload_n 3, 1) := by decide +kernel
theorem dL_law_694 : decode cL_law 694 = .ok (.iconst 4, 1) := by decide +kernel
theorem dL_law_695 : decode cL_law 695 = .ok (.iadd, 1) := by decide +kernel
theorem dL_law_696 : decode cL_law 696 = .ok (.iaload, 1) := by decide +kernel
theorem dL_law_697 : decode cL_law 697 = .ok (.invokevirtual 108, 3) := by decide +kernel
theorem dL_law_700 : decode cL_law 700 = .ok (.if_icmp .eq 97, 3) := by decide +kernel
theorem dL_law_703 : decode cL_law 703 = .ok (.iconst 0, 1) := by decide +kernel
theorem dL_law_704 : decode cL_law 704 = .ok (.ireturn, 1) := by decide +kernel
theorem dL_law_705 : decode cL_law 705 = .ok (.aload_n 1, 1) := by decide +kernel
theorem dL_law_706 : decode cL_law 706 = .ok (.aload_n 0, 1) := by decide +kernel
theorem dL_law_707 : decode cL_law 707 = .ok (.iload_n 3, 1) := by decide +kernel
theorem dL_law_708 : decode cL_law 708 = .ok (.iconst 1, 1) := by decide +kernel
theorem dL_law_709 : decode cL_law 709 = .ok (.iadd, 1) := by decide +kernel
theorem dL_law_710 : decode cL_law 710 = .ok (.iaload, 1) := by decide +kernel
theorem dL_law_711 : decode cL_law 711 = .ok (.aload_n 0, 1) := by decide +kernel
theorem dL_law_712 : decode cL_law 712 = .ok (.iload_n 3, 1) := by decide +kernel
theorem dL_law_713 : decode cL_law 713 = .ok (.iconst 2, 1) := by decide +kernel
theorem dL_law_714 : decode cL_law 714 = .ok (.iadd, 1) := by decide +kernel
theorem dL_law_715 : decode cL_law 715 = .ok (.iaload, 1) := by decide +kernel
theorem dL_law_716 : decode cL_law 716 = .ok (.aload_n 0, 1) := by decide +kernel
theorem dL_law_717 : decode cL_law 717 = .ok (.iload_n 3, 1) := by decide +kernel
theorem dL_law_718 : decode cL_law 718 = .ok (.iconst 3, 1) := by decide +kernel
theorem dL_law_719 : decode cL_law 719 = .ok (.iadd, 1) := by decide +kernel
theorem dL_law_720 : decode cL_law 720 = .ok (.iaload, 1) := by decide +kernel
theorem dL_law_721 : decode cL_law 721 = .ok (.invokevirtual 109, 3) := by decide +kernel
theorem dL_law_724 : decode cL_law 724 = .ok (.aload_n 2, 1) := by decide +kernel
theorem dL_law_725 : decode cL_law 725 = .ok (.aload_n 0, 1) := by decide +kernel
theorem dL_law_726 : decode cL_law 726 = .ok (.iload_n 3, 1) := by decide +kernel
theorem dL_law_727 : decode cL_law 727 = .ok (.iconst 1, 1) := by decide +kernel
theorem dL_law_728 : decode cL_law 728 = .ok (.iadd, 1) := by decide +kernel
theorem dL_law_729 : decode cL_law 729 = .ok (.iaload, 1) := by decide +kernel
theorem dL_law_730 : decode cL_law 730 = .ok (.aload_n 0, 1) := by decide +kernel
theorem dL_law_731 : decode cL_law 731 = .ok (.iload_n 3, 1) := by decide +kernel
theorem dL_law_732 : decode cL_law 732 = .ok (.iconst 2, 1) := by decide +kernel
theorem dL_law_733 : decode cL_law 733 = .ok (.iadd, 1) := by decide +kernel
theorem dL_law_734 : decode cL_law 734 = .ok (.iaload, 1) := by decide +kernel
theorem dL_law_735 : decode cL_law 735 = .ok (.aload_n 0, 1) := by decide +kernel
theorem dL_law_736 : decode cL_law 736 = .ok (.iload_n 3, 1) := by decide +kernel
theorem dL_law_737 : decode cL_law 737 = .ok (.iconst 3, 1) := by decide +kernel
theorem dL_law_738 : decode cL_law 738 = .ok (.iadd, 1) := by decide +kernel
theorem dL_law_739 : decode cL_law 739 = .ok (.iaload, 1) := by decide +kernel
theorem dL_law_740 : decode cL_law 740 = .ok (.invokevirtual 113, 3) := by decide +kernel
theorem dL_law_743 : decode cL_law 743 = .ok (.if_icmp .eq 54, 3) := by decide +kernel
theorem dL_law_746 : decode cL_law 746 = .ok (.iconst 0, 1) := by decide +kernel
theorem dL_law_747 : decode cL_law 747 = .ok (.ireturn, 1) := by decide +kernel
theorem dL_law_748 : decode cL_law 748 = .ok (.aload_n 1, 1) := by decide +kernel
theorem dL_law_749 : decode cL_law 749 = .ok (.invokevirtual 114, 3) := by decide +kernel
theorem dL_law_752 : decode cL_law 752 = .ok (.aload_n 2, 1) := by decide +kernel
theorem dL_law_753 : decode cL_law 753 = .ok (.invokevirtual 117, 3) := by decide +kernel
theorem dL_law_756 : decode cL_law 756 = .ok (.if_icmp .eq 41, 3) := by decide +kernel
theorem dL_law_759 : decode cL_law 759 = .ok (.iconst 0, 1) := by decide +kernel
theorem dL_law_760 : decode cL_law 760 = .ok (.ireturn, 1) := by decide +kernel
theorem dL_law_761 : decode cL_law 761 = .ok (.aload_n 1, 1) := by decide +kernel
theorem dL_law_762 : decode cL_law 762 = .ok (.invokevirtual 118, 3) := by decide +kernel
theorem dL_law_765 : decode cL_law 765 = .ok (.aload_n 2, 1) := by decide +kernel
theorem dL_law_766 : decode cL_law 766 = .ok (.invokevirtual 121, 3) := by decide +kernel
theorem dL_law_769 : decode cL_law 769 = .ok (.if_icmp .eq 28, 3) := by decide +kernel
theorem dL_law_772 : decode cL_law 772 = .ok (.iconst 0, 1) := by decide +kernel
theorem dL_law_773 : decode cL_law 773 = .ok (.ireturn, 1) := by decide +kernel
theorem dL_law_774 : decode cL_law 774 = .ok (.aload_n 1, 1) := by decide +kernel
theorem dL_law_775 : decode cL_law 775 = .ok (.aload_n 0, 1) := by decide +kernel
theorem dL_law_776 : decode cL_law 776 = .ok (.iload_n 3, 1) := by decide +kernel
theorem dL_law_777 : decode cL_law 777 = .ok (.iconst 1, 1) := by decide +kernel
theorem dL_law_778 : decode cL_law 778 = .ok (.iadd, 1) := by decide +kernel
theorem dL_law_779 : decode cL_law 779 = .ok (.iaload, 1) := by decide +kernel
theorem dL_law_780 : decode cL_law 780 = .ok (.invokevirtual 122, 3) := by decide +kernel
theorem dL_law_783 : decode cL_law 783 = .ok (.aload_n 2, 1) := by decide +kernel
theorem dL_law_784 : decode cL_law 784 = .ok (.aload_n 0, 1) := by decide +kernel
theorem dL_law_785 : decode cL_law 785 = .ok (.iload_n 3, 1) := by decide +kernel
theorem dL_law_786 : decode cL_law 786 = .ok (.iconst 1, 1) := by decide +kernel
theorem dL_law_787 : decode cL_law 787 = .ok (.iadd, 1) := by decide +kernel
theorem dL_law_788 : decode cL_law 788 = .ok (.iaload, 1) := by decide +kernel
theorem dL_law_789 : decode cL_law 789 = .ok (.invokevirtual 125, 3) := by decide +kernel
theorem dL_law_792 : decode cL_law 792 = .ok (.if_icmp .eq 5, 3) := by decide +kernel
theorem dL_law_795 : decode cL_law 795 = .ok (.iconst 0, 1) := by decide +kernel
theorem dL_law_796 : decode cL_law 796 = .ok (.ireturn, 1) := by decide +kernel
theorem dL_law_797 : decode cL_law 797 = .ok (.iinc 3 5, 3) := by decide +kernel
theorem dL_law_800 : decode cL_law 800 = .ok (.goto (-782), 3) := by decide +kernel
theorem dL_law_803 : decode cL_law 803 = .ok (.iconst 1, 1) := by decide +kernel
theorem dL_law_804 : decode cL_law 804 = .ok (.ireturn, 1) := by decide +kernel
end
section
theorem dX7_init_0 : decode cX7_init 0 = .ok (.aload_n 0, 1) := by decide +kernel
theorem dX7_init_1 : decode cX7_init 1 = .ok (.invokespecial 1, 3) := by decide +kernel
theorem dX7_init_4 : decode cX7_init 4 = .ok (.aload_n 0, 1) := by decide +kernel
theorem dX7_init_5 : decode cX7_init 5 = .ok (.sipush 200, 3) := by decide +kernel
theorem dX7_init_8 : decode cX7_init 8 = .ok (.newarray .int, 2) := by decide +kernel
theorem dX7_init_10 : decode cX7_init 10 = .ok (.putfield 7, 3) := by decide +kernel
theorem dX7_init_13 : decode cX7_init 13 = .ok (.aload_n 0, 1) := by decide +kernel
theorem dX7_init_14 : decode cX7_init 14 = .ok (.bipush 36, 2) := by decide +kernel
theorem dX7_init_16 : decode cX7_init 16 = .ok (.newarray .int, 2) := by decide +kernel
theorem dX7_init_18 : decode cX7_init 18 = .ok (.putfield 13, 3) := by decide +kernel
theorem dX7_init_21 : decode cX7_init 21 = .ok (.aload_n 0, 1) := by decide +kernel
theorem dX7_init_22 : decode cX7_init 22 = .ok (.bipush 12, 2) := by decide +kernel
theorem dX7_init_24 : decode cX7_init 24 = .ok (.newarray .int, 2) := by decide +kernel
theorem dX7_init_26 : decode cX7_init 26 = .ok (.putfield 16, 3) := by decide +kernel
theorem dX7_init_29 : decode cX7_init 29 = .ok (.aload_n 0, 1) := by decide +kernel
theorem dX7_init_30 : decode cX7_init 30 = .ok (.bipush 6, 2) := by decide +kernel
theorem dX7_init_32 : decode cX7_init 32 = .ok (.newarray .int, 2) := by decide +kernel
theorem dX7_init_34 : decode cX7_init 34 = .ok (.putfield 19, 3) := by decide +kernel
theorem dX7_init_37 : decode cX7_init 37 = .ok (.aload_n 0, 1) := by decide +kernel
theorem dX7_init_38 : decode cX7_init 38 = .ok (.bipush 36, 2) := by decide +kernel
theorem dX7_init_40 : decode cX7_init 40 = .ok (.newarray .int, 2) := by decide +kernel
theorem dX7_init_42 : decode cX7_init 42 = .ok (.putfield 22, 3) := by decide +kernel
theorem dX7_init_45 : decode cX7_init 45 = .ok (.aload_n 0, 1) := by decide +kernel
theorem dX7_init_46 : decode cX7_init 46 = .ok (.bipush 12, 2) := by decide +kernel
theorem dX7_init_48 : decode cX7_init 48 = .ok (.newarray .int, 2) := by decide +kernel
theorem dX7_init_50 : decode cX7_init 50 = .ok (.putfield 25, 3) := by decide +kernel
theorem dX7_init_53 : decode cX7_init 53 = .ok (.aload_n 0, 1) := by decide +kernel
theorem dX7_init_54 : decode cX7_init 54 = .ok (.bipush 6, 2) := by decide +kernel
theorem dX7_init_56 : decode cX7_init 56 = .ok (.newarray .int, 2) := by decide +kernel
theorem dX7_init_58 : decode cX7_init 58 = .ok (.putfield 28, 3) := by decide +kernel
theorem dX7_init_61 : decode cX7_init 61 = .ok (.aload_n 0, 1) := by decide +kernel
theorem dX7_init_62 : decode cX7_init 62 = .ok (.bipush 32, 2) := by decide +kernel
theorem dX7_init_64 : decode cX7_init 64 = .ok (.newarray .int, 2) := by decide +kernel
theorem dX7_init_66 : decode cX7_init 66 = .ok (.putfield 31, 3) := by decide +kernel
theorem dX7_init_69 : decode cX7_init 69 = .ok (.aload_n 0, 1) := by decide +kernel
theorem dX7_init_70 : decode cX7_init 70 = .ok (.bipush 32, 2) := by decide +kernel
theorem dX7_init_72 : decode cX7_init 72 = .ok (.newarray .int, 2) := by decide +kernel
theorem dX7_init_74 : decode cX7_init 74 = .ok (.putfield 34, 3) := by decide +kernel
theorem dX7_init_77 : decode cX7_init 77 = .ok (.aload_n 0, 1) := by decide +kernel
theorem dX7_init_78 : decode cX7_init 78 = .ok (.sipush 256, 3) := by decide +kernel
theorem dX7_init_81 : decode cX7_init 81 = .ok (.newarray .int, 2) := by decide +kernel
theorem dX7_init_83 : decode cX7_init 83 = .ok (.putfield 37, 3) := by decide +kernel
theorem dX7_init_86 : decode cX7_init 86 = .ok (.aload_n 0, 1) := by decide +kernel
theorem dX7_init_87 : decode cX7_init 87 = .ok (.bipush 64, 2) := by decide +kernel
theorem dX7_init_89 : decode cX7_init 89 = .ok (.newarray .int, 2) := by decide +kernel
theorem dX7_init_91 : decode cX7_init 91 = .ok (.putfield 40, 3) := by decide +kernel
theorem dX7_init_94 : decode cX7_init 94 = .ok (.aload_n 0, 1) := by decide +kernel
theorem dX7_init_95 : decode cX7_init 95 = .ok (.bipush 12, 2) := by decide +kernel
theorem dX7_init_97 : decode cX7_init 97 = .ok (.newarray .int, 2) := by decide +kernel
theorem dX7_init_99 : decode cX7_init 99 = .ok (.putfield 43, 3) := by decide +kernel
theorem dX7_init_102 : decode cX7_init 102 = .ok (.aload_n 0, 1) := by decide +kernel
theorem dX7_init_103 : decode cX7_init 103 = .ok (.bipush 12, 2) := by decide +kernel
theorem dX7_init_105 : decode cX7_init 105 = .ok (.newarray .int, 2) := by decide +kernel
theorem dX7_init_107 : decode cX7_init 107 = .ok (.putfield 46, 3) := by decide +kernel
theorem dX7_init_110 : decode cX7_init 110 = .ok (.aload_n 0, 1) := by decide +kernel
theorem dX7_init_111 : decode cX7_init 111 = .ok (.bipush 12, 2) := by decide +kernel
theorem dX7_init_113 : decode cX7_init 113 = .ok (.newarray .int, 2) := by decide +kernel
theorem dX7_init_115 : decode cX7_init 115 = .ok (.putfield 49, 3) := by decide +kernel
theorem dX7_init_118 : decode cX7_init 118 = .ok (.aload_n 0, 1) := by decide +kernel
theorem dX7_init_119 : decode cX7_init 119 = .ok (.iconst 0, 1) := by decide +kernel
theorem dX7_init_120 : decode cX7_init 120 = .ok (.bipush 11, 2) := by decide +kernel
theorem dX7_init_122 : decode cX7_init 122 = .ok (.iconst 3, 1) := by decide +kernel
theorem dX7_init_123 : decode cX7_init 123 = .ok (.iconst 2, 1) := by decide +kernel
theorem dX7_init_124 : decode cX7_init 124 = .ok (.invokevirtual 52, 3) := by decide +kernel
theorem dX7_init_127 : decode cX7_init 127 = .ok (.aload_n 0, 1) := by decide +kernel
theorem dX7_init_128 : decode cX7_init 128 = .ok (.iconst 1, 1) := by decide +kernel
theorem dX7_init_129 : decode cX7_init 129 = .ok (.bipush 11, 2) := by decide +kernel
theorem dX7_init_131 : decode cX7_init 131 = .ok (.bipush 7, 2) := by decide +kernel
theorem dX7_init_133 : decode cX7_init 133 = .ok (.iconst 1, 1) := by decide +kernel
theorem dX7_init_134 : decode cX7_init 134 = .ok (.invokevirtual 52, 3) := by decide +kernel
theorem dX7_init_137 : decode cX7_init 137 = .ok (.aload_n 0, 1) := by decide +kernel
theorem dX7_init_138 : decode cX7_init 138 = .ok (.iconst 2, 1) := by decide +kernel
theorem dX7_init_139 : decode cX7_init 139 = .ok (.bipush 12, 2) := by decide +kernel
theorem dX7_init_141 : decode cX7_init 141 = .ok (.iconst 2, 1) := by decide +kernel
theorem dX7_init_142 : decode cX7_init 142 = .ok (.bipush 8, 2) := by decide +kernel
theorem dX7_init_144 : decode cX7_init 144 = .ok (.invokevirtual 52, 3) := by decide +kernel
theorem dX7_init_147 : decode cX7_init 147 = .ok (.aload_n 0, 1) := by decide +kernel
theorem dX7_init_148 : decode cX7_init 148 = .ok (.iconst 3, 1) := by decide +kernel
theorem dX7_init_149 : decode cX7_init 149 = .ok (.bipush 9, 2) := by decide +kernel
theorem dX7_init_151 : decode cX7_init 151 = .ok (.iconst 1, 1) := by decide +kernel
theorem dX7_init_152 : decode cX7_init 152 = .ok (.iconst 3, 1) := by decide +kernel
theorem dX7_init_153 : decode cX7_init 153 = .ok (.invokevirtual 52, 3) := by decide +kernel
theorem dX7_init_156 : decode cX7_init 156 = .ok (.aload_n 0, 1) := by decide +kernel
theorem dX7_init_157 : decode cX7_init 157 = .ok (.iconst 4, 1) := by decide +kernel
theorem dX7_init_158 : decode cX7_init 158 = .ok (.bipush 9, 2) := by decide +kernel
theorem dX7_init_160 : decode cX7_init 160 = .ok (.iconst 5, 1) := by decide +kernel
theorem dX7_init_161 : decode cX7_init 161 = .ok (.iconst 0, 1) := by decide +kernel
theorem dX7_init_162 : decode cX7_init 162 = .ok (.invokevirtual 52, 3) := by decide +kernel
theorem dX7_init_165 : decode cX7_init 165 = .ok (.aload_n 0, 1) := by decide +kernel
theorem dX7_init_166 : decode cX7_init 166 = .ok (.iconst 5, 1) := by decide +kernel
theorem dX7_init_167 : decode cX7_init 167 = .ok (.bipush 11, 2) := by decide +kernel
theorem dX7_init_169 : decode cX7_init 169 = .ok (.iconst 0, 1) := by decide +kernel
theorem dX7_init_170 : decode cX7_init 170 = .ok (.bipush 6, 2) := by decide +kernel
theorem dX7_init_172 : decode cX7_init 172 = .ok (.invokevirtual 52, 3) := by decide +kernel
theorem dX7_init_175 : decode cX7_init 175 = .ok (.aload_n 0, 1) := by decide +kernel
theorem dX7_init_176 : decode cX7_init 176 = .ok (.bipush 6, 2) := by decide +kernel
theorem dX7_init_178 : decode cX7_init 178 = .ok (.bipush 11, 2) := by decide +kernel
theorem dX7_init_180 : decode cX7_init 180 = .ok (.iconst 4, 1) := by decide +kernel
theorem dX7_init_181 : decode cX7_init 181 = .ok (.iconst 4, 1) := by decide +kernel
theorem dX7_init_182 : decode cX7_init 182 = .ok (.invokevirtual 52, 3) := by decide +kernel
theorem dX7_init_185 : decode cX7_init 185 = .ok (.aload_n 0, 1) := by decide +kernel
theorem dX7_init_186 : decode cX7_init 186 = .ok (.bipush 7, 2) := by decide +kernel
theorem dX7_init_188 : decode cX7_init 188 = .ok (.putfield 56, 3) := by decide +kernel
theorem dX7_init_191 : decode cX7_init 191 = .ok (.aload_n 0, 1) := by decide +kernel
theorem dX7_init_192 : decode cX7_init 192 = .ok (.getfield 28, 3) := by decide +kernel
theorem dX7_init_195 : decode cX7_init 195 = .ok (.iconst 0, 1) := by decide +kernel
theorem dX7_init_196 : decode cX7_init 196 = .ok (.iconst 3, 1) := by decide +kernel
theorem dX7_init_197 : decode cX7_init 197 = .ok (.iastore, 1) := by decide +kernel
theorem dX7_init_198 : decode cX7_init 198 = .ok (.aload_n 0, 1) := by decide +kernel
theorem dX7_init_199 : decode cX7_init 199 = .ok (.getfield 28, 3) := by decide +kernel
theorem dX7_init_202 : decode cX7_init 202 = .ok (.iconst 1, 1) := by decide +kernel
theorem dX7_init_203 : decode cX7_init 203 = .ok (.bipush 50, 2) := by decide +kernel
theorem dX7_init_205 : decode cX7_init 205 = .ok (.iastore, 1) := by decide +kernel
theorem dX7_init_206 : decode cX7_init 206 = .ok (.aload_n 0, 1) := by decide +kernel
theorem dX7_init_207 : decode cX7_init 207 = .ok (.getfield 28, 3) := by decide +kernel
theorem dX7_init_210 : decode cX7_init 210 = .ok (.iconst 2, 1) := by decide +kernel
theorem dX7_init_211 : decode cX7_init 211 = .ok (.iconst 2, 1) := by decide +kernel
theorem dX7_init_212 : decode cX7_init 212 = .ok (.iastore, 1) := by decide +kernel
theorem dX7_init_213 : decode cX7_init 213 = .ok (.aload_n 0, 1) := by decide +kernel
theorem dX7_init_214 : decode cX7_init 214 = .ok (.getfield 28, 3) := by decide +kernel
theorem dX7_init_217 : decode cX7_init 217 = .ok (.iconst 3, 1) := by decide +kernel
theorem dX7_init_218 : decode cX7_init 218 = .ok (.bipush 12, 2) := by decide +kernel
theorem dX7_init_220 : decode cX7_init 220 = .ok (.iastore, 1) := by decide +kernel
theorem dX7_init_221 : decode cX7_init 221 = .ok (.aload_n 0, 1) := by decide +kernel
theorem dX7_init_222 : decode cX7_init 222 = .ok (.getfield 28, 3) := by decide +kernel
theorem dX7_init_225 : decode cX7_init 225 = .ok (.iconst 4, 1) := by decide +kernel
theorem dX7_init_226 : decode cX7_init 226 = .ok (.iconst 1, 1) := by decide +kernel
theorem dX7_init_227 : decode cX7_init 227 = .ok (.iastore, 1) := by decide +kernel
theorem dX7_init_228 : decode cX7_init 228 = .ok (.aload_n 0, 1) := by decide +kernel
theorem dX7_init_229 : decode cX7_init 229 = .ok (.getfield 28, 3) := by decide +kernel
theorem dX7_init_232 : decode cX7_init 232 = .ok (.iconst 5, 1) := by decide +kernel
theorem dX7_init_233 : decode cX7_init 233 = .ok (.iconst 3, 1) := by decide +kernel
theorem dX7_init_234 : decode cX7_init 234 = .ok (.iastore, 1) := by decide +kernel
theorem dX7_init_235 : decode cX7_init 235 = .ok (.aload_n 0, 1) := by decide +kernel
theorem dX7_init_236 : decode cX7_init 236 = .ok (.getfield 25, 3) := by decide +kernel
theorem dX7_init_239 : decode cX7_init 239 = .ok (.iconst 0, 1) := by decide +kernel
theorem dX7_init_240 : decode cX7_init 240 = .ok (.iconst 3, 1) := by decide +kernel
theorem dX7_init_241 : decode cX7_init 241 = .ok (.iastore, 1) := by decide +kernel
theorem dX7_init_242 : decode cX7_init 242 = .ok (.aload_n 0, 1) := by decide +kernel
theorem dX7_init_243 : decode cX7_init 243 = .ok (.getfield 25, 3) := by decide +kernel
theorem dX7_init_246 : decode cX7_init 246 = .ok (.iconst 1, 1) := by decide +kernel
theorem dX7_init_247 : decode cX7_init 247 = .ok (.iconst 5, 1) := by decide +kernel
theorem dX7_init_248 : decode cX7_init 248 = .ok (.iastore, 1) := by decide +kernel
theorem dX7_init_249 : decode cX7_init 249 = .ok (.aload_n 0, 1) := by decide +kernel
theorem dX7_init_250 : decode cX7_init 250 = .ok (.getfield 25, 3) := by decide +kernel
theorem dX7_init_253 : decode cX7_init 253 = .ok (.iconst 2, 1) := by decide +kernel
theorem dX7_init_254 : decode cX7_init 254 = .ok (.bipush 8, 2) := by decide +kernel
theorem dX7_init_256 : decode cX7_init 256 = .ok (.iastore, 1) := by decide +kernel
theorem dX7_init_257 : decode cX7_init 257 = .ok (.aload_n 0, 1) := by decide +kernel
theorem dX7_init_258 : decode cX7_init 258 = .ok (.getfield 25, 3) := by decide +kernel
theorem dX7_init_261 : decode cX7_init 261 = .ok (.iconst 3, 1) := by decide +kernel
theorem dX7_init_262 : decode cX7_init 262 = .ok (.iconst 2, 1) := by decide +kernel
theorem dX7_init_263 : decode cX7_init 263 = .ok (.iastore, 1) := by decide +kernel
theorem dX7_init_264 : decode cX7_init 264 = .ok (.aload_n 0, 1) := by decide +kernel
theorem dX7_init_265 : decode cX7_init 265 = .ok (.iconst 4, 1) := by decide +kernel
theorem dX7_init_266 : decode cX7_init 266 = .ok (.putfield 60, 3) := by decide +kernel
theorem dX7_init_269 : decode cX7_init 269 = .ok (.return_, 1) := by decide +kernel
theorem dX7_addStrip_0 : decode cX7_addStrip 0 = .ok (.aload_n 0, 1) := by decide +kernel
theorem dX7_addStrip_1 : decode cX7_addStrip 1 = .ok (.getfield 22, 3) := by decide +kernel
theorem dX7_addStrip_4 : decode cX7_addStrip 4 = .ok (.iconst 3, 1) := by decide +kernel
theorem dX7_addStrip_5 : decode cX7_addStrip 5 = .ok (.iload_n 1, 1) := by decide +kernel
theorem dX7_addStrip_6 : decode cX7_addStrip 6 = .ok (.imul, 1) := by decide +kernel
theorem dX7_addStrip_7 : decode cX7_addStrip 7 = .ok (.iload_n 2, 1) := by decide +kernel
theorem dX7_addStrip_8 : decode cX7_addStrip 8 = .ok (.iastore, 1) := by decide +kernel
theorem dX7_addStrip_9 : decode cX7_addStrip 9 = .ok (.aload_n 0, 1) := by decide +kernel
theorem dX7_addStrip_10 : decode cX7_addStrip 10 = .ok (.getfield 22, 3) := by decide +kernel
theorem dX7_addStrip_13 : decode cX7_addStrip 13 = .ok (.iconst 3, 1) := by decide +kernel
theorem dX7_addStrip_14 : decode cX7_addStrip 14 = .ok (.iload_n 1, 1) := by decide +kernel
theorem dX7_addStrip_15 : decode cX7_addStrip 15 = .ok (.imul, 1) := by decide +kernel
theorem dX7_addStrip_16 : decode cX7_addStrip 16 = .ok (.iconst 1, 1) := by decide +kernel
theorem dX7_addStrip_17 : decode cX7_addStrip 17 = .ok (.iadd, 1) := by decide +kernel
theorem dX7_addStrip_18 : decode cX7_addStrip 18 = .ok (.iload_n 3, 1) := by decide +kernel
theorem dX7_addStrip_19 : decode cX7_addStrip 19 = .ok (.iastore, 1) := by decide +kernel
theorem dX7_addStrip_20 : decode cX7_addStrip 20 = .ok (.aload_n 0, 1) := by decide +kernel
theorem dX7_addStrip_21 : decode cX7_addStrip 21 = .ok (.getfield 22, 3) := by decide +kernel
theorem dX7_addStrip_24 : decode cX7_addStrip 24 = .ok (.iconst 3, 1) := by decide +kernel
theorem dX7_addStrip_25 : decode cX7_addStrip 25 = .ok (.iload_n 1, 1) := by decide +kernel
theorem dX7_addStrip_26 : decode cX7_addStrip 26 = .ok (.imul, 1) := by decide +kernel
theorem dX7_addStrip_27 : decode cX7_addStrip 27 = .ok (.iconst 2, 1) := by decide +kernel
theorem dX7_addStrip_28 : decode cX7_addStrip 28 = .ok (.iadd, 1) := by decide +kernel
theorem dX7_addStrip_29 : decode cX7_addStrip 29 = .ok (.iload 4, 2) := by decide +kernel
theorem dX7_addStrip_31 : decode cX7_addStrip 31 = .ok (.iastore, 1) := by decide +kernel
theorem dX7_addStrip_32 : decode cX7_addStrip 32 = .ok (.return_, 1) := by decide +kernel
theorem dX7_in_0 : decode cX7_in 0 = .ok (.iload_n 0, 1) := by decide +kernel
theorem dX7_in_1 : decode cX7_in 1 = .ok (.iload_n 1, 1) := by decide +kernel
theorem dX7_in_2 : decode cX7_in 2 = .ok (.if_icmp .lt 12, 3) := by decide +kernel
theorem dX7_in_5 : decode cX7_in 5 = .ok (.iload_n 0, 1) := by decide +kernel
theorem dX7_in_6 : decode cX7_in 6 = .ok (.iload_n 2, 1) := by decide +kernel
theorem dX7_in_7 : decode cX7_in 7 = .ok (.if_icmp .gt 7, 3) := by decide +kernel
theorem dX7_in_10 : decode cX7_in 10 = .ok (.iconst 1, 1) := by decide +kernel
theorem dX7_in_11 : decode cX7_in 11 = .ok (.goto 4, 3) := by decide +kernel
theorem dX7_in_14 : decode cX7_in 14 = .ok (.iconst 0, 1) := by decide +kernel
theorem dX7_in_15 : decode cX7_in 15 = .ok (.ireturn, 1) := by decide +kernel
theorem dX7_has_0 : decode cX7_has 0 = .ok (.iload_n 0, 1) := by decide +kernel
theorem dX7_has_1 : decode cX7_has 1 = .ok (.iload_n 1, 1) := by decide +kernel
theorem dX7_has_2 : decode cX7_has 2 = .ok (.ishr, 1) := by decide +kernel
theorem dX7_has_3 : decode cX7_has 3 = .ok (.iconst 1, 1) := by decide +kernel
theorem dX7_has_4 : decode cX7_has 4 = .ok (.iand, 1) := by decide +kernel
theorem dX7_has_5 : decode cX7_has 5 = .ok (.iconst 1, 1) := by decide +kernel
theorem dX7_has_6 : decode cX7_has 6 = .ok (.if_icmp .ne 7, 3) := by decide +kernel
theorem dX7_has_9 : decode cX7_has 9 = .ok (.iconst 1, 1) := by decide +kernel
theorem dX7_has_10 : decode cX7_has 10 = .ok (.goto 4, 3) := by decide +kernel
theorem dX7_has_13 : decode cX7_has 13 = .ok (.iconst 0, 1) := by decide +kernel
theorem dX7_has_14 : decode cX7_has 14 = .ok (.ireturn, 1) := by decide +kernel
theorem dX7_bits_0 : decode cX7_bits 0 = .ok (.iconst 0, 1) := by decide +kernel
theorem dX7_bits_1 : decode cX7_bits 1 = .ok (.istore_n 1, 1) := by decide +kernel
theorem dX7_bits_2 : decode cX7_bits 2 = .ok (.iconst 0, 1) := by decide +kernel
theorem dX7_bits_3 : decode cX7_bits 3 = .ok (.istore_n 2, 1) := by decide +kernel
theorem dX7_bits_4 : decode cX7_bits 4 = .ok (.iload_n 2, 1) := by decide +kernel
theorem dX7_bits_5 : decode cX7_bits 5 = .ok (.iconst 4, 1) := by decide +kernel
theorem dX7_bits_6 : decode cX7_bits 6 = .ok (.if_icmp .ge 17, 3) := by decide +kernel
theorem dX7_bits_9 : decode cX7_bits 9 = .ok (.iload_n 1, 1) := by decide +kernel
theorem dX7_bits_10 : decode cX7_bits 10 = .ok (.iload_n 0, 1) := by decide +kernel
theorem dX7_bits_11 : decode cX7_bits 11 = .ok (.iload_n 2, 1) := by decide +kernel
theorem dX7_bits_12 : decode cX7_bits 12 = .ok (.ishr, 1) := by decide +kernel
theorem dX7_bits_13 : decode cX7_bits 13 = .ok (.iconst 1, 1) := by decide +kernel
theorem dX7_bits_14 : decode cX7_bits 14 = .ok (.iand, 1) := by decide +kernel
theorem dX7_bits_15 : decode cX7_bits 15 = .ok (.iadd, 1) := by decide +kernel
theorem dX7_bits_16 : decode cX7_bits 16 = .ok (.istore_n 1, 1) := by decide +kernel
theorem dX7_bits_17 : decode cX7_bits 17 = .ok (.iinc 2 1, 3) := by decide +kernel
theorem dX7_bits_20 : decode cX7_bits 20 = .ok (.goto (-16), 3) := by decide +kernel
theorem dX7_bits_23 : decode cX7_bits 23 = .ok (.iload_n 1, 1) := by decide +kernel
theorem dX7_bits_24 : decode cX7_bits 24 = .ok (.ireturn, 1) := by decide +kernel
theorem dX7_bring_0 : decode cX7_bring 0 = .ok (.iconst 0, 1) := by decide +kernel
theorem dX7_bring_1 : decode cX7_bring 1 = .ok (.istore 5, 2) := by decide +kernel
theorem dX7_bring_3 : decode cX7_bring 3 = .ok (.iload 5, 2) := by decide +kernel
theorem dX7_bring_5 : decode cX7_bring 5 = .ok (.iload 4, 2) := by decide +kernel
theorem dX7_bring_7 : decode cX7_bring 7 = .ok (.if_icmp .ge 21, 3) := by decide +kernel
theorem dX7_bring_10 : decode cX7_bring 10 = .ok (.aload_n 2, 1) := by decide +kernel
theorem dX7_bring_11 : decode cX7_bring 11 = .ok (.iload_n 3, 1) := by decide +kernel
theorem dX7_bring_12 : decode cX7_bring 12 = .ok (.iload 5, 2) := by decide +kernel
theorem dX7_bring_14 : decode cX7_bring 14 = .ok (.iadd, 1) := by decide +kernel
theorem dX7_bring_15 : decode cX7_bring 15 = .ok (.aload_n 0, 1) := by decide +kernel
theorem dX7_bring_16 : decode cX7_bring 16 = .ok (.iload_n 1, 1) := by decide +kernel
theorem dX7_bring_17 : decode cX7_bring 17 = .ok (.iload 5, 2) := by decide +kernel
theorem dX7_bring_19 : decode cX7_bring 19 = .ok (.iadd, 1) := by decide +kernel
theorem dX7_bring_20 : decode cX7_bring 20 = .ok (.iaload, 1) := by decide +kernel
theorem dX7_bring_21 : decode cX7_bring 21 = .ok (.iastore, 1) := by decide +kernel
theorem dX7_bring_22 : decode cX7_bring 22 = .ok (.iinc 5 1, 3) := by decide +kernel
theorem dX7_bring_25 : decode cX7_bring 25 = .ok (.goto (-22), 3) := by decide +kernel
theorem dX7_bring_28 : decode cX7_bring 28 = .ok (.return_, 1) := by decide +kernel
theorem dX7_write_0 : decode cX7_write 0 = .ok (.iload_n 1, 1) := by decide +kernel
theorem dX7_write_1 : decode cX7_write 1 = .ok (.bipush 32, 2) := by decide +kernel
theorem dX7_write_3 : decode cX7_write 3 = .ok (.bipush 126, 2) := by decide +kernel
theorem dX7_write_5 : decode cX7_write 5 = .ok (.invokestatic 63, 3) := by decide +kernel
theorem dX7_write_8 : decode cX7_write 8 = .ok (.ifCond .ne 5, 3) := by decide +kernel
theorem dX7_write_11 : decode cX7_write 11 = .ok (.iconst (-1), 1) := by decide +kernel
theorem dX7_write_12 : decode cX7_write 12 = .ok (.ireturn, 1) := by decide +kernel
theorem dX7_write_13 : decode cX7_write 13 = .ok (.aload_n 0, 1) := by decide +kernel
theorem dX7_write_14 : decode cX7_write 14 = .ok (.getfield 67, 3) := by decide +kernel
theorem dX7_write_17 : decode cX7_write 17 = .ok (.sipush 200, 3) := by decide +kernel
theorem dX7_write_20 : decode cX7_write 20 = .ok (.if_icmp .ne 6, 3) := by decide +kernel
theorem dX7_write_23 : decode cX7_write 23 = .ok (.bipush (-3), 2) := by decide +kernel
theorem dX7_write_25 : decode cX7_write 25 = .ok (.ireturn, 1) := by decide +kernel
theorem dX7_write_26 : decode cX7_write 26 = .ok (.aload_n 0, 1) := by decide +kernel
theorem dX7_write_27 : decode cX7_write 27 = .ok (.getfield 7, 3) := by decide +kernel
theorem dX7_write_30 : decode cX7_write 30 = .ok (.aload_n 0, 1) := by decide +kernel
theorem dX7_write_31 : decode cX7_write 31 = .ok (.getfield 67, 3) := by decide +kernel
theorem dX7_write_34 : decode cX7_write 34 = .ok (.iload_n 1, 1) := by decide +kernel
theorem dX7_write_35 : decode cX7_write 35 = .ok (.iastore, 1) := by decide +kernel
theorem dX7_write_36 : decode cX7_write 36 = .ok (.aload_n 0, 1) := by decide +kernel
theorem dX7_write_37 : decode cX7_write 37 = .ok (.dup, 1) := by decide +kernel
theorem dX7_write_38 : decode cX7_write 38 = .ok (.getfield 67, 3) := by decide +kernel
theorem dX7_write_41 : decode cX7_write 41 = .ok (.iconst 1, 1) := by decide +kernel
theorem dX7_write_42 : decode cX7_write 42 = .ok (.iadd, 1) := by decide +kernel
theorem dX7_write_43 : decode cX7_write 43 = .ok (.putfield 67, 3) := by decide +kernel
theorem dX7_write_46 : decode cX7_write 46 = .ok (.aload_n 0, 1) := by decide +kernel
theorem dX7_write_47 : decode cX7_write 47 = .ok (.getfield 67, 3) := by decide +kernel
theorem dX7_write_50 : decode cX7_write 50 = .ok (.ireturn, 1) := by decide +kernel
theorem dX7_wipe_0 : decode cX7_wipe 0 = .ok (.aload_n 0, 1) := by decide +kernel
theorem dX7_wipe_1 : decode cX7_wipe 1 = .ok (.getfield 67, 3) := by decide +kernel
theorem dX7_wipe_4 : decode cX7_wipe 4 = .ok (.istore_n 1, 1) := by decide +kernel
theorem dX7_wipe_5 : decode cX7_wipe 5 = .ok (.aload_n 0, 1) := by decide +kernel
theorem dX7_wipe_6 : decode cX7_wipe 6 = .ok (.iconst 0, 1) := by decide +kernel
theorem dX7_wipe_7 : decode cX7_wipe 7 = .ok (.putfield 67, 3) := by decide +kernel
theorem dX7_wipe_10 : decode cX7_wipe 10 = .ok (.iload_n 1, 1) := by decide +kernel
theorem dX7_wipe_11 : decode cX7_wipe 11 = .ok (.ireturn, 1) := by decide +kernel
theorem dX7_letterAt_0 : decode cX7_letterAt 0 = .ok (.iload_n 1, 1) := by decide +kernel
theorem dX7_letterAt_1 : decode cX7_letterAt 1 = .ok (.aload_n 0, 1) := by decide +kernel
theorem dX7_letterAt_2 : decode cX7_letterAt 2 = .ok (.getfield 67, 3) := by decide +kernel
theorem dX7_letterAt_5 : decode cX7_letterAt 5 = .ok (.if_icmp .ge 12, 3) := by decide +kernel
theorem dX7_letterAt_8 : decode cX7_letterAt 8 = .ok (.aload_n 0, 1) := by decide +kernel
theorem dX7_letterAt_9 : decode cX7_letterAt 9 = .ok (.getfield 7, 3) := by decide +kernel
theorem dX7_letterAt_12 : decode cX7_letterAt 12 = .ok (.iload_n 1, 1) := by decide +kernel
theorem dX7_letterAt_13 : decode cX7_letterAt 13 = .ok (.iaload, 1) := by decide +kernel
theorem dX7_letterAt_14 : decode cX7_letterAt 14 = .ok (.goto 4, 3) := by decide +kernel
theorem dX7_letterAt_17 : decode cX7_letterAt 17 = .ok (.iconst 0, 1) := by decide +kernel
theorem dX7_letterAt_18 : decode cX7_letterAt 18 = .ok (.ireturn, 1) := by decide +kernel
theorem dX7_isNumber_0 : decode cX7_isNumber 0 = .ok (.iconst 0, 1) := by decide +kernel
theorem dX7_isNumber_1 : decode cX7_isNumber 1 = .ok (.istore 4, 2) := by decide +kernel
theorem dX7_isNumber_3 : decode cX7_isNumber 3 = .ok (.aload_n 0, 1) := by decide +kernel
theorem dX7_isNumber_4 : decode cX7_isNumber 4 = .ok (.iconst 0, 1) := by decide +kernel
theorem dX7_isNumber_5 : decode cX7_isNumber 5 = .ok (.putfield 70, 3) := by decide +kernel
theorem dX7_isNumber_8 : decode cX7_isNumber 8 = .ok (.iload 4, 2) := by decide +kernel
theorem dX7_isNumber_10 : decode cX7_isNumber 10 = .ok (.iconst 2, 1) := by decide +kernel
theorem dX7_isNumber_11 : decode cX7_isNumber 11 = .ok (.if_icmp .ge 60, 3) := by decide +kernel
theorem dX7_isNumber_14 : decode cX7_isNumber 14 = .ok (.aload_n 0, 1) := by decide +kernel
theorem dX7_isNumber_15 : decode cX7_isNumber 15 = .ok (.aload_n 0, 1) := by decide +kernel
theorem dX7_isNumber_16 : decode cX7_isNumber 16 = .ok (.getfield 73, 3) := by decide +kernel
theorem dX7_isNumber_19 : decode cX7_isNumber 19 = .ok (.invokevirtual 76, 3) := by decide +kernel
theorem dX7_isNumber_22 : decode cX7_isNumber 22 = .ok (.bipush 48, 2) := by decide +kernel
theorem dX7_isNumber_24 : decode cX7_isNumber 24 = .ok (.bipush 57, 2) := by decide +kernel
theorem dX7_isNumber_26 : decode cX7_isNumber 26 = .ok (.invokestatic 63, 3) := by decide +kernel
theorem dX7_isNumber_29 : decode cX7_isNumber 29 = .ok (.ifCond .eq 42, 3) := by decide +kernel
theorem dX7_isNumber_32 : decode cX7_isNumber 32 = .ok (.aload_n 0, 1) := by decide +kernel
theorem dX7_isNumber_33 : decode cX7_isNumber 33 = .ok (.bipush 10, 2) := by decide +kernel
theorem dX7_isNumber_35 : decode cX7_isNumber 35 = .ok (.aload_n 0, 1) := by decide +kernel
theorem dX7_isNumber_36 : decode cX7_isNumber 36 = .ok (.getfield 70, 3) := by decide +kernel
theorem dX7_isNumber_39 : decode cX7_isNumber 39 = .ok (.imul, 1) := by decide +kernel
theorem dX7_isNumber_40 : decode cX7_isNumber 40 = .ok (.aload_n 0, 1) := by decide +kernel
theorem dX7_isNumber_41 : decode cX7_isNumber 41 = .ok (.aload_n 0, 1) := by decide +kernel
theorem dX7_isNumber_42 : decode cX7_isNumber 42 = .ok (.getfield 73, 3) := by decide +kernel
theorem dX7_isNumber_45 : decode cX7_isNumber 45 = .ok (.invokevirtual 76, 3) := by decide +kernel
theorem dX7_isNumber_48 : decode cX7_isNumber 48 = .ok (.iadd, 1) := by decide +kernel
theorem dX7_isNumber_49 : decode cX7_isNumber 49 = .ok (.bipush 48, 2) := by decide +kernel
theorem dX7_isNumber_51 : decode cX7_isNumber 51 = .ok (.isub, 1) := by decide +kernel
theorem dX7_isNumber_52 : decode cX7_isNumber 52 = .ok (.putfield 70, 3) := by decide +kernel
theorem dX7_isNumber_55 : decode cX7_isNumber 55 = .ok (.aload_n 0, 1) := by decide +kernel
theorem dX7_isNumber_56 : decode cX7_isNumber 56 = .ok (.dup, 1) := by decide +kernel
theorem dX7_isNumber_57 : decode cX7_isNumber 57 = .ok (.getfield 73, 3) := by decide +kernel
theorem dX7_isNumber_60 : decode cX7_isNumber 60 = .ok (.iconst 1, 1) := by decide +kernel
theorem dX7_isNumber_61 : decode cX7_isNumber 61 = .ok (.iadd, 1) := by decide +kernel
theorem dX7_isNumber_62 : decode cX7_isNumber 62 = .ok (.putfield 73, 3) := by decide +kernel
theorem dX7_isNumber_65 : decode cX7_isNumber 65 = .ok (.iinc 4 1, 3) := by decide +kernel
theorem dX7_isNumber_68 : decode cX7_isNumber 68 = .ok (.goto (-60), 3) := by decide +kernel
theorem dX7_isNumber_71 : decode cX7_isNumber 71 = .ok (.iload 4, 2) := by decide +kernel
theorem dX7_isNumber_73 : decode cX7_isNumber 73 = .ok (.ifCond .eq 27, 3) := by decide +kernel
theorem dX7_isNumber_76 : decode cX7_isNumber 76 = .ok (.aload_n 0, 1) := by decide +kernel
theorem dX7_isNumber_77 : decode cX7_isNumber 77 = .ok (.getfield 70, 3) := by decide +kernel
theorem dX7_isNumber_80 : decode cX7_isNumber 80 = .ok (.iload_n 1, 1) := by decide +kernel
theorem dX7_isNumber_81 : decode cX7_isNumber 81 = .ok (.iload_n 2, 1) := by decide +kernel
theorem dX7_isNumber_82 : decode cX7_isNumber 82 = .ok (.invokestatic 63, 3) := by decide +kernel
theorem dX7_isNumber_85 : decode cX7_isNumber 85 = .ok (.ifCond .eq 15, 3) := by decide +kernel
theorem dX7_isNumber_88 : decode cX7_isNumber 88 = .ok (.aload_n 0, 1) := by decide +kernel
theorem dX7_isNumber_89 : decode cX7_isNumber 89 = .ok (.aload_n 0, 1) := by decide +kernel
theorem dX7_isNumber_90 : decode cX7_isNumber 90 = .ok (.getfield 73, 3) := by decide +kernel
theorem dX7_isNumber_93 : decode cX7_isNumber 93 = .ok (.invokevirtual 76, 3) := by decide +kernel
theorem dX7_isNumber_96 : decode cX7_isNumber 96 = .ok (.iload_n 3, 1) := by decide +kernel
theorem dX7_isNumber_97 : decode cX7_isNumber 97 = .ok (.if_icmp .eq 5, 3) := by decide +kernel
theorem dX7_isNumber_100 : decode cX7_isNumber 100 = .ok (.iconst 0, 1) := by decide +kernel
theorem dX7_isNumber_101 : decode cX7_isNumber 101 = .ok (.ireturn, 1) := by decide +kernel
theorem dX7_isNumber_102 : decode cX7_isNumber 102 = .ok (.aload_n 0, 1) := by decide +kernel
theorem dX7_isNumber_103 : decode cX7_isNumber 103 = .ok (.dup, 1) := by decide +kernel
theorem dX7_isNumber_104 : decode cX7_isNumber 104 = .ok (.getfield 73, 3) := by decide +kernel
theorem dX7_isNumber_107 : decode cX7_isNumber 107 = .ok (.iconst 1, 1) := by decide +kernel
theorem dX7_isNumber_108 : decode cX7_isNumber 108 = .ok (.iadd, 1) := by decide +kernel
theorem dX7_isNumber_109 : decode cX7_isNumber 109 = .ok (.putfield 73, 3) := by decide +kernel
theorem dX7_isNumber_112 : decode cX7_isNumber 112 = .ok (.iconst 1, 1) := by decide +kernel
theorem dX7_isNumber_113 : decode cX7_isNumber 113 = .ok (.ireturn, 1) := by decide +kernel
theorem dX7_isStripItem_0 : decode cX7_isStripItem 0 = .ok (.iconst 3, 1) := by decide +kernel
theorem dX7_isStripItem_1 : decode cX7_isStripItem 1 = .ok (.aload_n 0, 1) := by decide +kernel
theorem dX7_isStripItem_2 : decode cX7_isStripItem 2 = .ok (.getfield 80, 3) := by decide +kernel
theorem dX7_isStripItem_5 : decode cX7_isStripItem 5 = .ok (.imul, 1) := by decide +kernel
theorem dX7_isStripItem_6 : decode cX7_isStripItem 6 = .ok (.istore_n 1, 1) := by decide +kernel
theorem dX7_isStripItem_7 : decode cX7_isStripItem 7 = .ok (.aload_n 0, 1) := by decide +kernel
theorem dX7_isStripItem_8 : decode cX7_isStripItem 8 = .ok (.getfield 80, 3) := by decide +kernel
theorem dX7_isStripItem_11 : decode cX7_isStripItem 11 = .ok (.bipush 12, 2) := by decide +kernel
theorem dX7_isStripItem_13 : decode cX7_isStripItem 13 = .ok (.if_icmp .ne 5, 3) := by decide +kernel
theorem dX7_isStripItem_16 : decode cX7_isStripItem 16 = .ok (.iconst 0, 1) := by decide +kernel
theorem dX7_isStripItem_17 : decode cX7_isStripItem 17 = .ok (.ireturn, 1) := by decide +kernel
theorem dX7_isStripItem_18 : decode cX7_isStripItem 18 = .ok (.iconst 0, 1) := by decide +kernel
theorem dX7_isStripItem_19 : decode cX7_isStripItem 19 = .ok (.istore_n 2, 1) := by decide +kernel
theorem dX7_isStripItem_20 : decode cX7_isStripItem 20 = .ok (.iload_n 2, 1) := by decide +kernel
theorem dX7_isStripItem_21 : decode cX7_isStripItem 21 = .ok (.iconst 3, 1) := by decide +kernel
theorem dX7_isStripItem_22 : decode cX7_isStripItem 22 = .ok (.if_icmp .ge 62, 3) := by decide +kernel
theorem dX7_isStripItem_25 : decode cX7_isStripItem 25 = .ok (.aload_n 0, 1) := by decide +kernel
theorem dX7_isStripItem_26 : decode cX7_isStripItem 26 = .ok (.iload_n 2, 1) := by decide +kernel
theorem dX7_isStripItem_27 : decode cX7_isStripItem 27 = .ok (.ifCond .ne 7, 3) := by decide +kernel
theorem dX7_isStripItem_30 : decode cX7_isStripItem 30 = .ok (.iconst 1, 1) := by decide +kernel
theorem dX7_isStripItem_31 : decode cX7_isStripItem 31 = .ok (.goto 4, 3) := by decide +kernel
theorem dX7_isStripItem_34 : decode cX7_isStripItem 34 = .ok (.iconst 0, 1) := by decide +kernel
theorem dX7_isStripItem_35 : decode cX7_isStripItem 35 = .ok (.iload_n 2, 1) := by decide +kernel
theorem dX7_isStripItem_36 : decode cX7_isStripItem 36 = .ok (.ifCond .ne 8, 3) := by decide +kernel
theorem dX7_isStripItem_39 : decode cX7_isStripItem 39 = .ok (.bipush 40, 2) := by decide +kernel
theorem dX7_isStripItem_41 : decode cX7_isStripItem 41 = .ok (.goto 5, 3) := by decide +kernel
theorem dX7_isStripItem_44 : decode cX7_isStripItem 44 = .ok (.bipush 9, 2) := by decide +kernel
theorem dX7_isStripItem_46 : decode cX7_isStripItem 46 = .ok (.iload_n 2, 1) := by decide +kernel
theorem dX7_isStripItem_47 : decode cX7_isStripItem 47 = .ok (.iconst 2, 1) := by decide +kernel
theorem dX7_isStripItem_48 : decode cX7_isStripItem 48 = .ok (.if_icmp .ne 8, 3) := by decide +kernel
theorem dX7_isStripItem_51 : decode cX7_isStripItem 51 = .ok (.bipush 59, 2) := by decide +kernel
theorem dX7_isStripItem_53 : decode cX7_isStripItem 53 = .ok (.goto 5, 3) := by decide +kernel
theorem dX7_isStripItem_56 : decode cX7_isStripItem 56 = .ok (.bipush 44, 2) := by decide +kernel
theorem dX7_isStripItem_58 : decode cX7_isStripItem 58 = .ok (.invokevirtual 83, 3) := by decide +kernel
theorem dX7_isStripItem_61 : decode cX7_isStripItem 61 = .ok (.ifCond .ne 5, 3) := by decide +kernel
theorem dX7_isStripItem_64 : decode cX7_isStripItem 64 = .ok (.iconst 0, 1) := by decide +kernel
theorem dX7_isStripItem_65 : decode cX7_isStripItem 65 = .ok (.ireturn, 1) := by decide +kernel
theorem dX7_isStripItem_66 : decode cX7_isStripItem 66 = .ok (.aload_n 0, 1) := by decide +kernel
theorem dX7_isStripItem_67 : decode cX7_isStripItem 67 = .ok (.getfield 13, 3) := by decide +kernel
theorem dX7_isStripItem_70 : decode cX7_isStripItem 70 = .ok (.iload_n 1, 1) := by decide +kernel
theorem dX7_isStripItem_71 : decode cX7_isStripItem 71 = .ok (.iload_n 2, 1) := by decide +kernel
theorem dX7_isStripItem_72 : decode cX7_isStripItem 72 = .ok (.iadd, 1) := by decide +kernel
theorem dX7_isStripItem_73 : decode cX7_isStripItem 73 = .ok (.aload_n 0, 1) := by decide +kernel
theorem dX7_isStripItem_74 : decode cX7_isStripItem 74 = .ok (.getfield 70, 3) := by decide +kernel
theorem dX7_isStripItem_77 : decode cX7_isStripItem 77 = .ok (.iastore, 1) := by decide +kernel
theorem dX7_isStripItem_78 : decode cX7_isStripItem 78 = .ok (.iinc 2 1, 3) := by decide +kernel
theorem dX7_isStripItem_81 : decode cX7_isStripItem 81 = .ok (.goto (-61), 3) := by decide +kernel
theorem dX7_isStripItem_84 : decode cX7_isStripItem 84 = .ok (.aload_n 0, 1) := by decide +kernel
theorem dX7_isStripItem_85 : decode cX7_isStripItem 85 = .ok (.dup, 1) := by decide +kernel
theorem dX7_isStripItem_86 : decode cX7_isStripItem 86 = .ok (.getfield 80, 3) := by decide +kernel
theorem dX7_isStripItem_89 : decode cX7_isStripItem 89 = .ok (.iconst 1, 1) := by decide +kernel
theorem dX7_isStripItem_90 : decode cX7_isStripItem 90 = .ok (.iadd, 1) := by decide +kernel
theorem dX7_isStripItem_91 : decode cX7_isStripItem 91 = .ok (.putfield 80, 3) := by decide +kernel
theorem dX7_isStripItem_94 : decode cX7_isStripItem 94 = .ok (.iconst 1, 1) := by decide +kernel
theorem dX7_isStripItem_95 : decode cX7_isStripItem 95 = .ok (.ireturn, 1) := by decide +kernel
theorem dX7_isDampItem_0 : decode cX7_isDampItem 0 = .ok (.aload_n 0, 1) := by decide +kernel
theorem dX7_isDampItem_1 : decode cX7_isDampItem 1 = .ok (.getfield 86, 3) := by decide +kernel
theorem dX7_isDampItem_4 : decode cX7_isDampItem 4 = .ok (.bipush 12, 2) := by decide +kernel
theorem dX7_isDampItem_6 : decode cX7_isDampItem 6 = .ok (.if_icmp .eq 15, 3) := by decide +kernel
theorem dX7_isDampItem_9 : decode cX7_isDampItem 9 = .ok (.aload_n 0, 1) := by decide +kernel
theorem dX7_isDampItem_10 : decode cX7_isDampItem 10 = .ok (.iconst 0, 1) := by decide +kernel
theorem dX7_isDampItem_11 : decode cX7_isDampItem 11 = .ok (.bipush 9, 2) := by decide +kernel
theorem dX7_isDampItem_13 : decode cX7_isDampItem 13 = .ok (.bipush 59, 2) := by decide +kernel
theorem dX7_isDampItem_15 : decode cX7_isDampItem 15 = .ok (.invokevirtual 83, 3) := by decide +kernel
theorem dX7_isDampItem_18 : decode cX7_isDampItem 18 = .ok (.ifCond .ne 5, 3) := by decide +kernel
theorem dX7_isDampItem_21 : decode cX7_isDampItem 21 = .ok (.iconst 0, 1) := by decide +kernel
theorem dX7_isDampItem_22 : decode cX7_isDampItem 22 = .ok (.ireturn, 1) := by decide +kernel
theorem dX7_isDampItem_23 : decode cX7_isDampItem 23 = .ok (.aload_n 0, 1) := by decide +kernel
theorem dX7_isDampItem_24 : decode cX7_isDampItem 24 = .ok (.getfield 16, 3) := by decide +kernel
theorem dX7_isDampItem_27 : decode cX7_isDampItem 27 = .ok (.aload_n 0, 1) := by decide +kernel
theorem dX7_isDampItem_28 : decode cX7_isDampItem 28 = .ok (.getfield 86, 3) := by decide +kernel
theorem dX7_isDampItem_31 : decode cX7_isDampItem 31 = .ok (.aload_n 0, 1) := by decide +kernel
theorem dX7_isDampItem_32 : decode cX7_isDampItem 32 = .ok (.getfield 70, 3) := by decide +kernel
theorem dX7_isDampItem_35 : decode cX7_isDampItem 35 = .ok (.iastore, 1) := by decide +kernel
theorem dX7_isDampItem_36 : decode cX7_isDampItem 36 = .ok (.aload_n 0, 1) := by decide +kernel
theorem dX7_isDampItem_37 : decode cX7_isDampItem 37 = .ok (.dup, 1) := by decide +kernel
theorem dX7_isDampItem_38 : decode cX7_isDampItem 38 = .ok (.getfield 86, 3) := by decide +kernel
theorem dX7_isDampItem_41 : decode cX7_isDampItem 41 = .ok (.iconst 1, 1) := by decide +kernel
theorem dX7_isDampItem_42 : decode cX7_isDampItem 42 = .ok (.iadd, 1) := by decide +kernel
theorem dX7_isDampItem_43 : decode cX7_isDampItem 43 = .ok (.putfield 86, 3) := by decide +kernel
theorem dX7_isDampItem_46 : decode cX7_isDampItem 46 = .ok (.iconst 1, 1) := by decide +kernel
theorem dX7_isDampItem_47 : decode cX7_isDampItem 47 = .ok (.ireturn, 1) := by decide +kernel
theorem dX7_isPair_0 : decode cX7_isPair 0 = .ok (.aload_n 0, 1) := by decide +kernel
theorem dX7_isPair_1 : decode cX7_isPair 1 = .ok (.iload_n 2, 1) := by decide +kernel
theorem dX7_isPair_2 : decode cX7_isPair 2 = .ok (.iload_n 3, 1) := by decide +kernel
theorem dX7_isPair_3 : decode cX7_isPair 3 = .ok (.bipush 44, 2) := by decide +kernel
theorem dX7_isPair_5 : decode cX7_isPair 5 = .ok (.invokevirtual 83, 3) := by decide +kernel
theorem dX7_isPair_8 : decode cX7_isPair 8 = .ok (.ifCond .ne 5, 3) := by decide +kernel
theorem dX7_isPair_11 : decode cX7_isPair 11 = .ok (.iconst 0, 1) := by decide +kernel
theorem dX7_isPair_12 : decode cX7_isPair 12 = .ok (.ireturn, 1) := by decide +kernel
theorem dX7_isPair_13 : decode cX7_isPair 13 = .ok (.aload_n 0, 1) := by decide +kernel
theorem dX7_isPair_14 : decode cX7_isPair 14 = .ok (.getfield 70, 3) := by decide +kernel
theorem dX7_isPair_17 : decode cX7_isPair 17 = .ok (.istore 6, 2) := by decide +kernel
theorem dX7_isPair_19 : decode cX7_isPair 19 = .ok (.aload_n 0, 1) := by decide +kernel
theorem dX7_isPair_20 : decode cX7_isPair 20 = .ok (.iload 4, 2) := by decide +kernel
theorem dX7_isPair_22 : decode cX7_isPair 22 = .ok (.iload 5, 2) := by decide +kernel
theorem dX7_isPair_24 : decode cX7_isPair 24 = .ok (.bipush 59, 2) := by decide +kernel
theorem dX7_isPair_26 : decode cX7_isPair 26 = .ok (.invokevirtual 83, 3) := by decide +kernel
theorem dX7_isPair_29 : decode cX7_isPair 29 = .ok (.ifCond .ne 5, 3) := by decide +kernel
theorem dX7_isPair_32 : decode cX7_isPair 32 = .ok (.iconst 0, 1) := by decide +kernel
theorem dX7_isPair_33 : decode cX7_isPair 33 = .ok (.ireturn, 1) := by decide +kernel
theorem dX7_isPair_34 : decode cX7_isPair 34 = .ok (.aload_n 0, 1) := by decide +kernel
theorem dX7_isPair_35 : decode cX7_isPair 35 = .ok (.getfield 19, 3) := by decide +kernel
theorem dX7_isPair_38 : decode cX7_isPair 38 = .ok (.iload_n 1, 1) := by decide +kernel
theorem dX7_isPair_39 : decode cX7_isPair 39 = .ok (.iload 6, 2) := by decide +kernel
theorem dX7_isPair_41 : decode cX7_isPair 41 = .ok (.iastore, 1) := by decide +kernel
theorem dX7_isPair_42 : decode cX7_isPair 42 = .ok (.aload_n 0, 1) := by decide +kernel
theorem dX7_isPair_43 : decode cX7_isPair 43 = .ok (.getfield 19, 3) := by decide +kernel
theorem dX7_isPair_46 : decode cX7_isPair 46 = .ok (.iload_n 1, 1) := by decide +kernel
theorem dX7_isPair_47 : decode cX7_isPair 47 = .ok (.iconst 1, 1) := by decide +kernel
theorem dX7_isPair_48 : decode cX7_isPair 48 = .ok (.iadd, 1) := by decide +kernel
theorem dX7_isPair_49 : decode cX7_isPair 49 = .ok (.aload_n 0, 1) := by decide +kernel
theorem dX7_isPair_50 : decode cX7_isPair 50 = .ok (.getfield 70, 3) := by decide +kernel
theorem dX7_isPair_53 : decode cX7_isPair 53 = .ok (.iastore, 1) := by decide +kernel
theorem dX7_isPair_54 : decode cX7_isPair 54 = .ok (.iconst 1, 1) := by decide +kernel
theorem dX7_isPair_55 : decode cX7_isPair 55 = .ok (.ireturn, 1) := by decide +kernel
theorem dX7_isOne_0 : decode cX7_isOne 0 = .ok (.aload_n 0, 1) := by decide +kernel
theorem dX7_isOne_1 : decode cX7_isOne 1 = .ok (.iload_n 2, 1) := by decide +kernel
theorem dX7_isOne_2 : decode cX7_isOne 2 = .ok (.iload_n 3, 1) := by decide +kernel
theorem dX7_isOne_3 : decode cX7_isOne 3 = .ok (.bipush 59, 2) := by decide +kernel
theorem dX7_isOne_5 : decode cX7_isOne 5 = .ok (.invokevirtual 83, 3) := by decide +kernel
theorem dX7_isOne_8 : decode cX7_isOne 8 = .ok (.ifCond .ne 5, 3) := by decide +kernel
theorem dX7_isOne_11 : decode cX7_isOne 11 = .ok (.iconst 0, 1) := by decide +kernel
theorem dX7_isOne_12 : decode cX7_isOne 12 = .ok (.ireturn, 1) := by decide +kernel
theorem dX7_isOne_13 : decode cX7_isOne 13 = .ok (.aload_n 0, 1) := by decide +kernel
theorem dX7_isOne_14 : decode cX7_isOne 14 = .ok (.getfield 19, 3) := by decide +kernel
theorem dX7_isOne_17 : decode cX7_isOne 17 = .ok (.iload_n 1, 1) := by decide +kernel
theorem dX7_isOne_18 : decode cX7_isOne 18 = .ok (.aload_n 0, 1) := by decide +kernel
theorem dX7_isOne_19 : decode cX7_isOne 19 = .ok (.getfield 70, 3) := by decide +kernel
theorem dX7_isOne_22 : decode cX7_isOne 22 = .ok (.iastore, 1) := by decide +kernel
theorem dX7_isOne_23 : decode cX7_isOne 23 = .ok (.iconst 1, 1) := by decide +kernel
theorem dX7_isOne_24 : decode cX7_isOne 24 = .ok (.ireturn, 1) := by decide +kernel
theorem dX7_isItem_0 : decode cX7_isItem 0 = .ok (.aload_n 0, 1) := by decide +kernel
theorem dX7_isItem_1 : decode cX7_isItem 1 = .ok (.aload_n 0, 1) := by decide +kernel
theorem dX7_isItem_2 : decode cX7_isItem 2 = .ok (.getfield 73, 3) := by decide +kernel
theorem dX7_isItem_5 : decode cX7_isItem 5 = .ok (.invokevirtual 76, 3) := by decide +kernel
theorem dX7_isItem_8 : decode cX7_isItem 8 = .ok (.istore_n 1, 1) := by decide +kernel
theorem dX7_isItem_9 : decode cX7_isItem 9 = .ok (.aload_n 0, 1) := by decide +kernel
theorem dX7_isItem_10 : decode cX7_isItem 10 = .ok (.dup, 1) := by decide +kernel
theorem dX7_isItem_11 : decode cX7_isItem 11 = .ok (.getfield 73, 3) := by decide +kernel
theorem dX7_isItem_14 : decode cX7_isItem 14 = .ok (.iconst 1, 1) := by decide +kernel
theorem dX7_isItem_15 : decode cX7_isItem 15 = .ok (.iadd, 1) := by decide +kernel
theorem dX7_isItem_16 : decode cX7_isItem 16 = .ok (.putfield 73, 3) := by decide +kernel
theorem dX7_isItem_19 : decode cX7_isItem 19 = .ok (.iload_n 1, 1) := by decide +kernel
theorem dX7_isItem_20 : decode cX7_isItem 20 = .ok (.tableswitch 130 100 115 #[125, 130, 130, 130, 105, 130, 130, 114, 130, 130, 130, 97, 130, 130, 85, 80], 80) := by decide +kernel
theorem dX7_isItem_100 : decode cX7_isItem 100 = .ok (.aload_n 0, 1) := by decide +kernel
theorem dX7_isItem_101 : decode cX7_isItem 101 = .ok (.invokevirtual 89, 3) := by decide +kernel
theorem dX7_isItem_104 : decode cX7_isItem 104 = .ok (.ireturn, 1) := by decide +kernel
theorem dX7_isItem_105 : decode cX7_isItem 105 = .ok (.aload_n 0, 1) := by decide +kernel
theorem dX7_isItem_106 : decode cX7_isItem 106 = .ok (.iconst 0, 1) := by decide +kernel
theorem dX7_isItem_107 : decode cX7_isItem 107 = .ok (.iconst 1, 1) := by decide +kernel
theorem dX7_isItem_108 : decode cX7_isItem 108 = .ok (.bipush 6, 2) := by decide +kernel
theorem dX7_isItem_110 : decode cX7_isItem 110 = .ok (.iconst 1, 1) := by decide +kernel
theorem dX7_isItem_111 : decode cX7_isItem 111 = .ok (.bipush 99, 2) := by decide +kernel
theorem dX7_isItem_113 : decode cX7_isItem 113 = .ok (.invokevirtual 93, 3) := by decide +kernel
theorem dX7_isItem_116 : decode cX7_isItem 116 = .ok (.ireturn, 1) := by decide +kernel
theorem dX7_isItem_117 : decode cX7_isItem 117 = .ok (.aload_n 0, 1) := by decide +kernel
theorem dX7_isItem_118 : decode cX7_isItem 118 = .ok (.iconst 2, 1) := by decide +kernel
theorem dX7_isItem_119 : decode cX7_isItem 119 = .ok (.iconst 0, 1) := by decide +kernel
theorem dX7_isItem_120 : decode cX7_isItem 120 = .ok (.iconst 5, 1) := by decide +kernel
theorem dX7_isItem_121 : decode cX7_isItem 121 = .ok (.invokevirtual 97, 3) := by decide +kernel
theorem dX7_isItem_124 : decode cX7_isItem 124 = .ok (.ireturn, 1) := by decide +kernel
theorem dX7_isItem_125 : decode cX7_isItem 125 = .ok (.aload_n 0, 1) := by decide +kernel
theorem dX7_isItem_126 : decode cX7_isItem 126 = .ok (.iconst 3, 1) := by decide +kernel
theorem dX7_isItem_127 : decode cX7_isItem 127 = .ok (.iconst 1, 1) := by decide +kernel
theorem dX7_isItem_128 : decode cX7_isItem 128 = .ok (.bipush 30, 2) := by decide +kernel
theorem dX7_isItem_130 : decode cX7_isItem 130 = .ok (.invokevirtual 97, 3) := by decide +kernel
theorem dX7_isItem_133 : decode cX7_isItem 133 = .ok (.ireturn, 1) := by decide +kernel
theorem dX7_isItem_134 : decode cX7_isItem 134 = .ok (.aload_n 0, 1) := by decide +kernel
theorem dX7_isItem_135 : decode cX7_isItem 135 = .ok (.iconst 4, 1) := by decide +kernel
theorem dX7_isItem_136 : decode cX7_isItem 136 = .ok (.iconst 0, 1) := by decide +kernel
theorem dX7_isItem_137 : decode cX7_isItem 137 = .ok (.iconst 3, 1) := by decide +kernel
theorem dX7_isItem_138 : decode cX7_isItem 138 = .ok (.iconst 1, 1) := by decide +kernel
theorem dX7_isItem_139 : decode cX7_isItem 139 = .ok (.bipush 9, 2) := by decide +kernel
theorem dX7_isItem_141 : decode cX7_isItem 141 = .ok (.invokevirtual 93, 3) := by decide +kernel
theorem dX7_isItem_144 : decode cX7_isItem 144 = .ok (.ireturn, 1) := by decide +kernel
theorem dX7_isItem_145 : decode cX7_isItem 145 = .ok (.aload_n 0, 1) := by decide +kernel
theorem dX7_isItem_146 : decode cX7_isItem 146 = .ok (.invokevirtual 100, 3) := by decide +kernel
theorem dX7_isItem_149 : decode cX7_isItem 149 = .ok (.ireturn, 1) := by decide +kernel
theorem dX7_isItem_150 : decode cX7_isItem 150 = .ok (.iconst 0, 1) := by decide +kernel
theorem dX7_isItem_151 : decode cX7_isItem 151 = .ok (.ireturn, 1) := by decide +kernel
theorem dX7_fault_0 : decode cX7_fault 0 = .ok (.aload_n 0, 1) := by decide +kernel
theorem dX7_fault_1 : decode cX7_fault 1 = .ok (.iconst 0, 1) := by decide +kernel
theorem dX7_fault_2 : decode cX7_fault 2 = .ok (.putfield 73, 3) := by decide +kernel
theorem dX7_fault_5 : decode cX7_fault 5 = .ok (.aload_n 0, 1) := by decide +kernel
theorem dX7_fault_6 : decode cX7_fault 6 = .ok (.iconst 0, 1) := by decide +kernel
theorem dX7_fault_7 : decode cX7_fault 7 = .ok (.putfield 80, 3) := by decide +kernel
theorem dX7_fault_10 : decode cX7_fault 10 = .ok (.aload_n 0, 1) := by decide +kernel
theorem dX7_fault_11 : decode cX7_fault 11 = .ok (.iconst 0, 1) := by decide +kernel
theorem dX7_fault_12 : decode cX7_fault 12 = .ok (.putfield 86, 3) := by decide +kernel
theorem dX7_fault_15 : decode cX7_fault 15 = .ok (.aload_n 0, 1) := by decide +kernel
theorem dX7_fault_16 : decode cX7_fault 16 = .ok (.getfield 19, 3) := by decide +kernel
theorem dX7_fault_19 : decode cX7_fault 19 = .ok (.iconst 0, 1) := by decide +kernel
theorem dX7_fault_20 : decode cX7_fault 20 = .ok (.iconst 3, 1) := by decide +kernel
theorem dX7_fault_21 : decode cX7_fault 21 = .ok (.iastore, 1) := by decide +kernel
theorem dX7_fault_22 : decode cX7_fault 22 = .ok (.aload_n 0, 1) := by decide +kernel
theorem dX7_fault_23 : decode cX7_fault 23 = .ok (.getfield 19, 3) := by decide +kernel
theorem dX7_fault_26 : decode cX7_fault 26 = .ok (.iconst 1, 1) := by decide +kernel
theorem dX7_fault_27 : decode cX7_fault 27 = .ok (.bipush 60, 2) := by decide +kernel
theorem dX7_fault_29 : decode cX7_fault 29 = .ok (.iastore, 1) := by decide +kernel
theorem dX7_fault_30 : decode cX7_fault 30 = .ok (.aload_n 0, 1) := by decide +kernel
theorem dX7_fault_31 : decode cX7_fault 31 = .ok (.getfield 19, 3) := by decide +kernel
theorem dX7_fault_34 : decode cX7_fault 34 = .ok (.iconst 2, 1) := by decide +kernel
theorem dX7_fault_35 : decode cX7_fault 35 = .ok (.iconst 2, 1) := by decide +kernel
theorem dX7_fault_36 : decode cX7_fault 36 = .ok (.iastore, 1) := by decide +kernel
theorem dX7_fault_37 : decode cX7_fault 37 = .ok (.aload_n 0, 1) := by decide +kernel
theorem dX7_fault_38 : decode cX7_fault 38 = .ok (.getfield 19, 3) := by decide +kernel
theorem dX7_fault_41 : decode cX7_fault 41 = .ok (.iconst 3, 1) := by decide +kernel
theorem dX7_fault_42 : decode cX7_fault 42 = .ok (.bipush 12, 2) := by decide +kernel
theorem dX7_fault_44 : decode cX7_fault 44 = .ok (.iastore, 1) := by decide +kernel
theorem dX7_fault_45 : decode cX7_fault 45 = .ok (.aload_n 0, 1) := by decide +kernel
theorem dX7_fault_46 : decode cX7_fault 46 = .ok (.getfield 19, 3) := by decide +kernel
theorem dX7_fault_49 : decode cX7_fault 49 = .ok (.iconst 4, 1) := by decide +kernel
theorem dX7_fault_50 : decode cX7_fault 50 = .ok (.iconst 0, 1) := by decide +kernel
theorem dX7_fault_51 : decode cX7_fault 51 = .ok (.iastore, 1) := by decide +kernel
theorem dX7_fault_52 : decode cX7_fault 52 = .ok (.aload_n 0, 1) := by decide +kernel
theorem dX7_fault_53 : decode cX7_fault 53 = .ok (.getfield 19, 3) := by decide +kernel
theorem dX7_fault_56 : decode cX7_fault 56 = .ok (.iconst 5, 1) := by decide +kernel
theorem dX7_fault_57 : decode cX7_fault 57 = .ok (.iconst 3, 1) := by decide +kernel
theorem dX7_fault_58 : decode cX7_fault 58 = .ok (.iastore, 1) := by decide +kernel
theorem dX7_fault_59 : decode cX7_fault 59 = .ok (.aload_n 0, 1) := by decide +kernel
theorem dX7_fault_60 : decode cX7_fault 60 = .ok (.getfield 73, 3) := by decide +kernel
theorem dX7_fault_63 : decode cX7_fault 63 = .ok (.aload_n 0, 1) := by decide +kernel
theorem dX7_fault_64 : decode cX7_fault 64 = .ok (.getfield 67, 3) := by decide +kernel
theorem dX7_fault_67 : decode cX7_fault 67 = .ok (.if_icmp .ge 20, 3) := by decide +kernel
theorem dX7_fault_70 : decode cX7_fault 70 = .ok (.aload_n 0, 1) := by decide +kernel
theorem dX7_fault_71 : decode cX7_fault 71 = .ok (.getfield 73, 3) := by decide +kernel
theorem dX7_fault_74 : decode cX7_fault 74 = .ok (.istore_n 1, 1) := by decide +kernel
theorem dX7_fault_75 : decode cX7_fault 75 = .ok (.aload_n 0, 1) := by decide +kernel
theorem dX7_fault_76 : decode cX7_fault 76 = .ok (.invokevirtual 103, 3) := by decide +kernel
theorem dX7_fault_79 : decode cX7_fault 79 = .ok (.ifCond .ne 5, 3) := by decide +kernel
theorem dX7_fault_82 : decode cX7_fault 82 = .ok (.iload_n 1, 1) := by decide +kernel
theorem dX7_fault_83 : decode cX7_fault 83 = .ok (.ireturn, 1) := by decide +kernel
theorem dX7_fault_84 : decode cX7_fault 84 = .ok (.goto (-25), 3) := by decide +kernel
theorem dX7_fault_87 : decode cX7_fault 87 = .ok (.bipush (-4), 2) := by decide +kernel
theorem dX7_fault_89 : decode cX7_fault 89 = .ok (.ireturn, 1) := by decide +kernel
theorem dX7_lay_0 : decode cX7_lay 0 = .ok (.aload_n 0, 1) := by decide +kernel
theorem dX7_lay_1 : decode cX7_lay 1 = .ok (.invokevirtual 106, 3) := by decide +kernel
theorem dX7_lay_4 : decode cX7_lay 4 = .ok (.bipush (-4), 2) := by decide +kernel
theorem dX7_lay_6 : decode cX7_lay 6 = .ok (.if_icmp .ne 10, 3) := by decide +kernel
theorem dX7_lay_9 : decode cX7_lay 9 = .ok (.aload_n 0, 1) := by decide +kernel
theorem dX7_lay_10 : decode cX7_lay 10 = .ok (.getfield 80, 3) := by decide +kernel
theorem dX7_lay_13 : decode cX7_lay 13 = .ok (.ifCond .ne 6, 3) := by decide +kernel
theorem dX7_lay_16 : decode cX7_lay 16 = .ok (.bipush (-2), 2) := by decide +kernel
theorem dX7_lay_18 : decode cX7_lay 18 = .ok (.ireturn, 1) := by decide +kernel
theorem dX7_lay_19 : decode cX7_lay 19 = .ok (.aload_n 0, 1) := by decide +kernel
theorem dX7_lay_20 : decode cX7_lay 20 = .ok (.aload_n 0, 1) := by decide +kernel
theorem dX7_lay_21 : decode cX7_lay 21 = .ok (.getfield 80, 3) := by decide +kernel
theorem dX7_lay_24 : decode cX7_lay 24 = .ok (.putfield 56, 3) := by decide +kernel
theorem dX7_lay_27 : decode cX7_lay 27 = .ok (.aload_n 0, 1) := by decide +kernel
theorem dX7_lay_28 : decode cX7_lay 28 = .ok (.aload_n 0, 1) := by decide +kernel
theorem dX7_lay_29 : decode cX7_lay 29 = .ok (.getfield 86, 3) := by decide +kernel
theorem dX7_lay_32 : decode cX7_lay 32 = .ok (.putfield 60, 3) := by decide +kernel
theorem dX7_lay_35 : decode cX7_lay 35 = .ok (.aload_n 0, 1) := by decide +kernel
theorem dX7_lay_36 : decode cX7_lay 36 = .ok (.getfield 13, 3) := by decide +kernel
theorem dX7_lay_39 : decode cX7_lay 39 = .ok (.iconst 0, 1) := by decide +kernel
theorem dX7_lay_40 : decode cX7_lay 40 = .ok (.aload_n 0, 1) := by decide +kernel
theorem dX7_lay_41 : decode cX7_lay 41 = .ok (.getfield 22, 3) := by decide +kernel
theorem dX7_lay_44 : decode cX7_lay 44 = .ok (.iconst 0, 1) := by decide +kernel
theorem dX7_lay_45 : decode cX7_lay 45 = .ok (.bipush 36, 2) := by decide +kernel
theorem dX7_lay_47 : decode cX7_lay 47 = .ok (.invokestatic 110, 3) := by decide +kernel
theorem dX7_lay_50 : decode cX7_lay 50 = .ok (.aload_n 0, 1) := by decide +kernel
theorem dX7_lay_51 : decode cX7_lay 51 = .ok (.getfield 16, 3) := by decide +kernel
theorem dX7_lay_54 : decode cX7_lay 54 = .ok (.iconst 0, 1) := by decide +kernel
theorem dX7_lay_55 : decode cX7_lay 55 = .ok (.aload_n 0, 1) := by decide +kernel
theorem dX7_lay_56 : decode cX7_lay 56 = .ok (.getfield 25, 3) := by decide +kernel
theorem dX7_lay_59 : decode cX7_lay 59 = .ok (.iconst 0, 1) := by decide +kernel
theorem dX7_lay_60 : decode cX7_lay 60 = .ok (.bipush 12, 2) := by decide +kernel
theorem dX7_lay_62 : decode cX7_lay 62 = .ok (.invokestatic 110, 3) := by decide +kernel
theorem dX7_lay_65 : decode cX7_lay 65 = .ok (.aload_n 0, 1) := by decide +kernel
theorem dX7_lay_66 : decode cX7_lay 66 = .ok (.getfield 19, 3) := by decide +kernel
theorem dX7_lay_69 : decode cX7_lay 69 = .ok (.iconst 0, 1) := by decide +kernel
theorem dX7_lay_70 : decode cX7_lay 70 = .ok (.aload_n 0, 1) := by decide +kernel
theorem dX7_lay_71 : decode cX7_lay 71 = .ok (.getfield 28, 3) := by decide +kernel
theorem dX7_lay_74 : decode cX7_lay 74 = .ok (.iconst 0, 1) := by decide +kernel
theorem dX7_lay_75 : decode cX7_lay 75 = .ok (.bipush 6, 2) := by decide +kernel
theorem dX7_lay_77 : decode cX7_lay 77 = .ok (.invokestatic 110, 3) := by decide +kernel
theorem dX7_lay_80 : decode cX7_lay 80 = .ok (.iconst 0, 1) := by decide +kernel
theorem dX7_lay_81 : decode cX7_lay 81 = .ok (.istore_n 1, 1) := by decide +kernel
theorem dX7_lay_82 : decode cX7_lay 82 = .ok (.iload_n 1, 1) := by decide +kernel
theorem dX7_lay_83 : decode cX7_lay 83 = .ok (.bipush 32, 2) := by decide +kernel
theorem dX7_lay_85 : decode cX7_lay 85 = .ok (.if_icmp .ge 16, 3) := by decide +kernel
theorem dX7_lay_88 : decode cX7_lay 88 = .ok (.aload_n 0, 1) := by decide +kernel
theorem dX7_lay_89 : decode cX7_lay 89 = .ok (.getfield 31, 3) := by decide +kernel
theorem dX7_lay_92 : decode cX7_lay 92 = .ok (.iload_n 1, 1) := by decide +kernel
theorem dX7_lay_93 : decode cX7_lay 93 = .ok (.iconst 0, 1) := by decide +kernel
theorem dX7_lay_94 : decode cX7_lay 94 = .ok (.iastore, 1) := by decide +kernel
theorem dX7_lay_95 : decode cX7_lay 95 = .ok (.iinc 1 1, 3) := by decide +kernel
theorem dX7_lay_98 : decode cX7_lay 98 = .ok (.goto (-16), 3) := by decide +kernel
theorem dX7_lay_101 : decode cX7_lay 101 = .ok (.aload_n 0, 1) := by decide +kernel
theorem dX7_lay_102 : decode cX7_lay 102 = .ok (.iconst 0, 1) := by decide +kernel
theorem dX7_lay_103 : decode cX7_lay 103 = .ok (.putfield 114, 3) := by decide +kernel
theorem dX7_lay_106 : decode cX7_lay 106 = .ok (.aload_n 0, 1) := by decide +kernel
theorem dX7_lay_107 : decode cX7_lay 107 = .ok (.iconst 0, 1) := by decide +kernel
theorem dX7_lay_108 : decode cX7_lay 108 = .ok (.putfield 117, 3) := by decide +kernel
theorem dX7_lay_111 : decode cX7_lay 111 = .ok (.aload_n 0, 1) := by decide +kernel
theorem dX7_lay_112 : decode cX7_lay 112 = .ok (.iconst 0, 1) := by decide +kernel
theorem dX7_lay_113 : decode cX7_lay 113 = .ok (.putfield 120, 3) := by decide +kernel
theorem dX7_lay_116 : decode cX7_lay 116 = .ok (.aload_n 0, 1) := by decide +kernel
theorem dX7_lay_117 : decode cX7_lay 117 = .ok (.getfield 56, 3) := by decide +kernel
theorem dX7_lay_120 : decode cX7_lay 120 = .ok (.ireturn, 1) := by decide +kernel
theorem dX7_coveredIn_0 : decode cX7_coveredIn 0 = .ok (.iconst 0, 1) := by decide +kernel
theorem dX7_coveredIn_1 : decode cX7_coveredIn 1 = .ok (.istore_n 1, 1) := by decide +kernel
theorem dX7_coveredIn_2 : decode cX7_coveredIn 2 = .ok (.iconst 0, 1) := by decide +kernel
theorem dX7_coveredIn_3 : decode cX7_coveredIn 3 = .ok (.istore_n 2, 1) := by decide +kernel
theorem dX7_coveredIn_4 : decode cX7_coveredIn 4 = .ok (.iload_n 2, 1) := by decide +kernel
theorem dX7_coveredIn_5 : decode cX7_coveredIn 5 = .ok (.aload_n 0, 1) := by decide +kernel
theorem dX7_coveredIn_6 : decode cX7_coveredIn 6 = .ok (.iconst 0, 1) := by decide +kernel
theorem dX7_coveredIn_7 : decode cX7_coveredIn 7 = .ok (.iaload, 1) := by decide +kernel
theorem dX7_coveredIn_8 : decode cX7_coveredIn 8 = .ok (.if_icmp .ge 17, 3) := by decide +kernel
theorem dX7_coveredIn_11 : decode cX7_coveredIn 11 = .ok (.iload_n 1, 1) := by decide +kernel
theorem dX7_coveredIn_12 : decode cX7_coveredIn 12 = .ok (.aload_n 0, 1) := by decide +kernel
theorem dX7_coveredIn_13 : decode cX7_coveredIn 13 = .ok (.iconst 1, 1) := by decide +kernel
theorem dX7_coveredIn_14 : decode cX7_coveredIn 14 = .ok (.iload_n 2, 1) := by decide +kernel
theorem dX7_coveredIn_15 : decode cX7_coveredIn 15 = .ok (.iadd, 1) := by decide +kernel
theorem dX7_coveredIn_16 : decode cX7_coveredIn 16 = .ok (.iaload, 1) := by decide +kernel
theorem dX7_coveredIn_17 : decode cX7_coveredIn 17 = .ok (.iadd, 1) := by decide +kernel
theorem dX7_coveredIn_18 : decode cX7_coveredIn 18 = .ok (.istore_n 1, 1) := by decide +kernel
theorem dX7_coveredIn_19 : decode cX7_coveredIn 19 = .ok (.iinc 2 1, 3) := by decide +kernel
theorem dX7_coveredIn_22 : decode cX7_coveredIn 22 = .ok (.goto (-18), 3) := by decide +kernel
theorem dX7_coveredIn_25 : decode cX7_coveredIn 25 = .ok (.iload_n 1, 1) := by decide +kernel
theorem dX7_coveredIn_26 : decode cX7_coveredIn 26 = .ok (.ireturn, 1) := by decide +kernel
theorem dX7_rollIn_0 : decode cX7_rollIn 0 = .ok (.aload_n 0, 1) := by decide +kernel
theorem dX7_rollIn_1 : decode cX7_rollIn 1 = .ok (.getfield 28, 3) := by decide +kernel
theorem dX7_rollIn_4 : decode cX7_rollIn 4 = .ok (.iconst 1, 1) := by decide +kernel
theorem dX7_rollIn_5 : decode cX7_rollIn 5 = .ok (.iaload, 1) := by decide +kernel
theorem dX7_rollIn_6 : decode cX7_rollIn 6 = .ok (.istore_n 2, 1) := by decide +kernel
theorem dX7_rollIn_7 : decode cX7_rollIn 7 = .ok (.iconst 0, 1) := by decide +kernel
theorem dX7_rollIn_8 : decode cX7_rollIn 8 = .ok (.istore_n 3, 1) := by decide +kernel
theorem dX7_rollIn_9 : decode cX7_rollIn 9 = .ok (.iload_n 3, 1) := by decide +kernel
theorem dX7_rollIn_10 : decode cX7_rollIn 10 = .ok (.aload_n 1, 1) := by decide +kernel
theorem dX7_rollIn_11 : decode cX7_rollIn 11 = .ok (.iconst 0, 1) := by decide +kernel
theorem dX7_rollIn_12 : decode cX7_rollIn 12 = .ok (.iaload, 1) := by decide +kernel
theorem dX7_rollIn_13 : decode cX7_rollIn 13 = .ok (.if_icmp .ge 18, 3) := by decide +kernel
theorem dX7_rollIn_16 : decode cX7_rollIn 16 = .ok (.iload_n 2, 1) := by decide +kernel
theorem dX7_rollIn_17 : decode cX7_rollIn 17 = .ok (.aload_n 1, 1) := by decide +kernel
theorem dX7_rollIn_18 : decode cX7_rollIn 18 = .ok (.bipush 13, 2) := by decide +kernel
theorem dX7_rollIn_20 : decode cX7_rollIn 20 = .ok (.iload_n 3, 1) := by decide +kernel
theorem dX7_rollIn_21 : decode cX7_rollIn 21 = .ok (.iadd, 1) := by decide +kernel
theorem dX7_rollIn_22 : decode cX7_rollIn 22 = .ok (.iaload, 1) := by decide +kernel
theorem dX7_rollIn_23 : decode cX7_rollIn 23 = .ok (.isub, 1) := by decide +kernel
theorem dX7_rollIn_24 : decode cX7_rollIn 24 = .ok (.istore_n 2, 1) := by decide +kernel
theorem dX7_rollIn_25 : decode cX7_rollIn 25 = .ok (.iinc 3 1, 3) := by decide +kernel
theorem dX7_rollIn_28 : decode cX7_rollIn 28 = .ok (.goto (-19), 3) := by decide +kernel
theorem dX7_rollIn_31 : decode cX7_rollIn 31 = .ok (.iload_n 2, 1) := by decide +kernel
theorem dX7_rollIn_32 : decode cX7_rollIn 32 = .ok (.ireturn, 1) := by decide +kernel
theorem dX7_lengthOf_0 : decode cX7_lengthOf 0 = .ok (.iconst 0, 1) := by decide +kernel
theorem dX7_lengthOf_1 : decode cX7_lengthOf 1 = .ok (.istore_n 2, 1) := by decide +kernel
theorem dX7_lengthOf_2 : decode cX7_lengthOf 2 = .ok (.iconst 0, 1) := by decide +kernel
theorem dX7_lengthOf_3 : decode cX7_lengthOf 3 = .ok (.istore_n 3, 1) := by decide +kernel
theorem dX7_lengthOf_4 : decode cX7_lengthOf 4 = .ok (.iload_n 3, 1) := by decide +kernel
theorem dX7_lengthOf_5 : decode cX7_lengthOf 5 = .ok (.aload_n 0, 1) := by decide +kernel
theorem dX7_lengthOf_6 : decode cX7_lengthOf 6 = .ok (.getfield 31, 3) := by decide +kernel
theorem dX7_lengthOf_9 : decode cX7_lengthOf 9 = .ok (.iconst 0, 1) := by decide +kernel
theorem dX7_lengthOf_10 : decode cX7_lengthOf 10 = .ok (.iaload, 1) := by decide +kernel
theorem dX7_lengthOf_11 : decode cX7_lengthOf 11 = .ok (.if_icmp .ge 27, 3) := by decide +kernel
theorem dX7_lengthOf_14 : decode cX7_lengthOf 14 = .ok (.iload_n 2, 1) := by decide +kernel
theorem dX7_lengthOf_15 : decode cX7_lengthOf 15 = .ok (.aload_n 0, 1) := by decide +kernel
theorem dX7_lengthOf_16 : decode cX7_lengthOf 16 = .ok (.getfield 31, 3) := by decide +kernel
theorem dX7_lengthOf_19 : decode cX7_lengthOf 19 = .ok (.iconst 1, 1) := by decide +kernel
theorem dX7_lengthOf_20 : decode cX7_lengthOf 20 = .ok (.iload_n 3, 1) := by decide +kernel
theorem dX7_lengthOf_21 : decode cX7_lengthOf 21 = .ok (.iadd, 1) := by decide +kernel
theorem dX7_lengthOf_22 : decode cX7_lengthOf 22 = .ok (.iaload, 1) := by decide +kernel
theorem dX7_lengthOf_23 : decode cX7_lengthOf 23 = .ok (.iadd, 1) := by decide +kernel
theorem dX7_lengthOf_24 : decode cX7_lengthOf 24 = .ok (.istore_n 2, 1) := by decide +kernel
theorem dX7_lengthOf_25 : decode cX7_lengthOf 25 = .ok (.iload_n 1, 1) := by decide +kernel
theorem dX7_lengthOf_26 : decode cX7_lengthOf 26 = .ok (.iload_n 2, 1) := by decide +kernel
theorem dX7_lengthOf_27 : decode cX7_lengthOf 27 = .ok (.if_icmp .ge 5, 3) := by decide +kernel
theorem dX7_lengthOf_30 : decode cX7_lengthOf 30 = .ok (.iload_n 3, 1) := by decide +kernel
theorem dX7_lengthOf_31 : decode cX7_lengthOf 31 = .ok (.ireturn, 1) := by decide +kernel
theorem dX7_lengthOf_32 : decode cX7_lengthOf 32 = .ok (.iinc 3 1, 3) := by decide +kernel
theorem dX7_lengthOf_35 : decode cX7_lengthOf 35 = .ok (.goto (-31), 3) := by decide +kernel
theorem dX7_lengthOf_38 : decode cX7_lengthOf 38 = .ok (.bipush (-4), 2) := by decide +kernel
theorem dX7_lengthOf_40 : decode cX7_lengthOf 40 = .ok (.ireturn, 1) := by decide +kernel
theorem dX7_strip_0 : decode cX7_strip 0 = .ok (.iload_n 1, 1) := by decide +kernel
theorem dX7_strip_1 : decode cX7_strip 1 = .ok (.iconst 0, 1) := by decide +kernel
theorem dX7_strip_2 : decode cX7_strip 2 = .ok (.aload_n 0, 1) := by decide +kernel
theorem dX7_strip_3 : decode cX7_strip 3 = .ok (.getfield 56, 3) := by decide +kernel
theorem dX7_strip_6 : decode cX7_strip 6 = .ok (.iconst 1, 1) := by decide +kernel
theorem dX7_strip_7 : decode cX7_strip 7 = .ok (.isub, 1) := by decide +kernel
theorem dX7_strip_8 : decode cX7_strip 8 = .ok (.invokestatic 63, 3) := by decide +kernel
theorem dX7_strip_11 : decode cX7_strip 11 = .ok (.ifCond .eq 12, 3) := by decide +kernel
theorem dX7_strip_14 : decode cX7_strip 14 = .ok (.iload_n 2, 1) := by decide +kernel
theorem dX7_strip_15 : decode cX7_strip 15 = .ok (.iconst 0, 1) := by decide +kernel
theorem dX7_strip_16 : decode cX7_strip 16 = .ok (.iconst 4, 1) := by decide +kernel
theorem dX7_strip_17 : decode cX7_strip 17 = .ok (.invokestatic 63, 3) := by decide +kernel
theorem dX7_strip_20 : decode cX7_strip 20 = .ok (.ifCond .ne 5, 3) := by decide +kernel
theorem dX7_strip_23 : decode cX7_strip 23 = .ok (.iconst (-1), 1) := by decide +kernel
theorem dX7_strip_24 : decode cX7_strip 24 = .ok (.ireturn, 1) := by decide +kernel
theorem dX7_strip_25 : decode cX7_strip 25 = .ok (.iload_n 2, 1) := by decide +kernel
theorem dX7_strip_26 : decode cX7_strip 26 = .ok (.iconst 3, 1) := by decide +kernel
theorem dX7_strip_27 : decode cX7_strip 27 = .ok (.if_icmp .ge 14, 3) := by decide +kernel
theorem dX7_strip_30 : decode cX7_strip 30 = .ok (.aload_n 0, 1) := by decide +kernel
theorem dX7_strip_31 : decode cX7_strip 31 = .ok (.getfield 22, 3) := by decide +kernel
theorem dX7_strip_34 : decode cX7_strip 34 = .ok (.iconst 3, 1) := by decide +kernel
theorem dX7_strip_35 : decode cX7_strip 35 = .ok (.iload_n 1, 1) := by decide +kernel
theorem dX7_strip_36 : decode cX7_strip 36 = .ok (.imul, 1) := by decide +kernel
theorem dX7_strip_37 : decode cX7_strip 37 = .ok (.iload_n 2, 1) := by decide +kernel
theorem dX7_strip_38 : decode cX7_strip 38 = .ok (.iadd, 1) := by decide +kernel
theorem dX7_strip_39 : decode cX7_strip 39 = .ok (.iaload, 1) := by decide +kernel
theorem dX7_strip_40 : decode cX7_strip 40 = .ok (.ireturn, 1) := by decide +kernel
theorem dX7_strip_41 : decode cX7_strip 41 = .ok (.aload_n 0, 1) := by decide +kernel
theorem dX7_strip_42 : decode cX7_strip 42 = .ok (.iload_n 1, 1) := by decide +kernel
theorem dX7_strip_43 : decode cX7_strip 43 = .ok (.invokevirtual 123, 3) := by decide +kernel
theorem dX7_strip_46 : decode cX7_strip 46 = .ok (.istore_n 3, 1) := by decide +kernel
theorem dX7_strip_47 : decode cX7_strip 47 = .ok (.aload_n 0, 1) := by decide +kernel
theorem dX7_strip_48 : decode cX7_strip 48 = .ok (.iload_n 1, 1) := by decide +kernel
theorem dX7_strip_49 : decode cX7_strip 49 = .ok (.iconst 1, 1) := by decide +kernel
theorem dX7_strip_50 : decode cX7_strip 50 = .ok (.iadd, 1) := by decide +kernel
theorem dX7_strip_51 : decode cX7_strip 51 = .ok (.invokevirtual 123, 3) := by decide +kernel
theorem dX7_strip_54 : decode cX7_strip 54 = .ok (.istore 4, 2) := by decide +kernel
theorem dX7_strip_56 : decode cX7_strip 56 = .ok (.iload_n 2, 1) := by decide +kernel
theorem dX7_strip_57 : decode cX7_strip 57 = .ok (.iconst 3, 1) := by decide +kernel
theorem dX7_strip_58 : decode cX7_strip 58 = .ok (.if_icmp .ne 7, 3) := by decide +kernel
theorem dX7_strip_61 : decode cX7_strip 61 = .ok (.iload_n 3, 1) := by decide +kernel
theorem dX7_strip_62 : decode cX7_strip 62 = .ok (.goto 27, 3) := by decide +kernel
theorem dX7_strip_65 : decode cX7_strip 65 = .ok (.iload_n 3, 1) := by decide +kernel
theorem dX7_strip_66 : decode cX7_strip 66 = .ok (.bipush (-4), 2) := by decide +kernel
theorem dX7_strip_68 : decode cX7_strip 68 = .ok (.if_icmp .eq 20, 3) := by decide +kernel
theorem dX7_strip_71 : decode cX7_strip 71 = .ok (.iload 4, 2) := by decide +kernel
theorem dX7_strip_73 : decode cX7_strip 73 = .ok (.bipush (-4), 2) := by decide +kernel
theorem dX7_strip_75 : decode cX7_strip 75 = .ok (.if_icmp .eq 13, 3) := by decide +kernel
theorem dX7_strip_78 : decode cX7_strip 78 = .ok (.iload 4, 2) := by decide +kernel
theorem dX7_strip_80 : decode cX7_strip 80 = .ok (.iload_n 3, 1) := by decide +kernel
theorem dX7_strip_81 : decode cX7_strip 81 = .ok (.if_icmp .eq 7, 3) := by decide +kernel
theorem dX7_strip_84 : decode cX7_strip 84 = .ok (.iconst 1, 1) := by decide +kernel
theorem dX7_strip_85 : decode cX7_strip 85 = .ok (.goto 4, 3) := by decide +kernel
theorem dX7_strip_88 : decode cX7_strip 88 = .ok (.iconst 0, 1) := by decide +kernel
theorem dX7_strip_89 : decode cX7_strip 89 = .ok (.ireturn, 1) := by decide +kernel
theorem dX7_isHooked_0 : decode cX7_isHooked 0 = .ok (.aload_n 0, 1) := by decide +kernel
theorem dX7_isHooked_1 : decode cX7_isHooked 1 = .ok (.bipush 29, 2) := by decide +kernel
theorem dX7_isHooked_3 : decode cX7_isHooked 3 = .ok (.iaload, 1) := by decide +kernel
theorem dX7_isHooked_4 : decode cX7_isHooked 4 = .ok (.iload_n 1, 1) := by decide +kernel
theorem dX7_isHooked_5 : decode cX7_isHooked 5 = .ok (.invokestatic 126, 3) := by decide +kernel
theorem dX7_isHooked_8 : decode cX7_isHooked 8 = .ok (.ireturn, 1) := by decide +kernel
theorem dX7_wall_0 : decode cX7_wall 0 = .ok (.iload_n 1, 1) := by decide +kernel
theorem dX7_wall_1 : decode cX7_wall 1 = .ok (.iconst 0, 1) := by decide +kernel
theorem dX7_wall_2 : decode cX7_wall 2 = .ok (.iconst 3, 1) := by decide +kernel
theorem dX7_wall_3 : decode cX7_wall 3 = .ok (.invokestatic 63, 3) := by decide +kernel
theorem dX7_wall_6 : decode cX7_wall 6 = .ok (.ifCond .ne 5, 3) := by decide +kernel
theorem dX7_wall_9 : decode cX7_wall 9 = .ok (.iconst (-1), 1) := by decide +kernel
theorem dX7_wall_10 : decode cX7_wall 10 = .ok (.ireturn, 1) := by decide +kernel
theorem dX7_wall_11 : decode cX7_wall 11 = .ok (.iload_n 2, 1) := by decide +kernel
theorem dX7_wall_12 : decode cX7_wall 12 = .ok (.tableswitch 96 0 3 #[32, 42, 54, 66], 32) := by decide +kernel
theorem dX7_wall_44 : decode cX7_wall 44 = .ok (.aload_n 0, 1) := by decide +kernel
theorem dX7_wall_45 : decode cX7_wall 45 = .ok (.getfield 31, 3) := by decide +kernel
theorem dX7_wall_48 : decode cX7_wall 48 = .ok (.bipush 25, 2) := by decide +kernel
theorem dX7_wall_50 : decode cX7_wall 50 = .ok (.iload_n 1, 1) := by decide +kernel
theorem dX7_wall_51 : decode cX7_wall 51 = .ok (.iadd, 1) := by decide +kernel
theorem dX7_wall_52 : decode cX7_wall 52 = .ok (.iaload, 1) := by decide +kernel
theorem dX7_wall_53 : decode cX7_wall 53 = .ok (.ireturn, 1) := by decide +kernel
theorem dX7_wall_54 : decode cX7_wall 54 = .ok (.aload_n 0, 1) := by decide +kernel
theorem dX7_wall_55 : decode cX7_wall 55 = .ok (.getfield 31, 3) := by decide +kernel
theorem dX7_wall_58 : decode cX7_wall 58 = .ok (.bipush 29, 2) := by decide +kernel
theorem dX7_wall_60 : decode cX7_wall 60 = .ok (.iaload, 1) := by decide +kernel
theorem dX7_wall_61 : decode cX7_wall 61 = .ok (.iload_n 1, 1) := by decide +kernel
theorem dX7_wall_62 : decode cX7_wall 62 = .ok (.ishr, 1) := by decide +kernel
theorem dX7_wall_63 : decode cX7_wall 63 = .ok (.iconst 1, 1) := by decide +kernel
theorem dX7_wall_64 : decode cX7_wall 64 = .ok (.iand, 1) := by decide +kernel
theorem dX7_wall_65 : decode cX7_wall 65 = .ok (.ireturn, 1) := by decide +kernel
theorem dX7_wall_66 : decode cX7_wall 66 = .ok (.aload_n 0, 1) := by decide +kernel
theorem dX7_wall_67 : decode cX7_wall 67 = .ok (.getfield 31, 3) := by decide +kernel
theorem dX7_wall_70 : decode cX7_wall 70 = .ok (.bipush 30, 2) := by decide +kernel
theorem dX7_wall_72 : decode cX7_wall 72 = .ok (.iaload, 1) := by decide +kernel
theorem dX7_wall_73 : decode cX7_wall 73 = .ok (.iload_n 1, 1) := by decide +kernel
theorem dX7_wall_74 : decode cX7_wall 74 = .ok (.ishr, 1) := by decide +kernel
theorem dX7_wall_75 : decode cX7_wall 75 = .ok (.iconst 1, 1) := by decide +kernel
theorem dX7_wall_76 : decode cX7_wall 76 = .ok (.iand, 1) := by decide +kernel
theorem dX7_wall_77 : decode cX7_wall 77 = .ok (.ireturn, 1) := by decide +kernel
theorem dX7_wall_78 : decode cX7_wall 78 = .ok (.aload_n 0, 1) := by decide +kernel
theorem dX7_wall_79 : decode cX7_wall 79 = .ok (.getfield 31, 3) := by decide +kernel
theorem dX7_wall_82 : decode cX7_wall 82 = .ok (.iload_n 1, 1) := by decide +kernel
theorem dX7_wall_83 : decode cX7_wall 83 = .ok (.invokestatic 130, 3) := by decide +kernel
theorem dX7_wall_86 : decode cX7_wall 86 = .ok (.ifCond .eq 20, 3) := by decide +kernel
theorem dX7_wall_89 : decode cX7_wall 89 = .ok (.aload_n 0, 1) := by decide +kernel
theorem dX7_wall_90 : decode cX7_wall 90 = .ok (.getfield 31, 3) := by decide +kernel
theorem dX7_wall_93 : decode cX7_wall 93 = .ok (.bipush 25, 2) := by decide +kernel
theorem dX7_wall_95 : decode cX7_wall 95 = .ok (.iload_n 1, 1) := by decide +kernel
theorem dX7_wall_96 : decode cX7_wall 96 = .ok (.iadd, 1) := by decide +kernel
theorem dX7_wall_97 : decode cX7_wall 97 = .ok (.iaload, 1) := by decide +kernel
theorem dX7_wall_98 : decode cX7_wall 98 = .ok (.iconst 2, 1) := by decide +kernel
theorem dX7_wall_99 : decode cX7_wall 99 = .ok (.if_icmp .ge 7, 3) := by decide +kernel
theorem dX7_wall_102 : decode cX7_wall 102 = .ok (.iconst 1, 1) := by decide +kernel
theorem dX7_wall_103 : decode cX7_wall 103 = .ok (.goto 4, 3) := by decide +kernel
theorem dX7_wall_106 : decode cX7_wall 106 = .ok (.iconst 0, 1) := by decide +kernel
theorem dX7_wall_107 : decode cX7_wall 107 = .ok (.ireturn, 1) := by decide +kernel
theorem dX7_wall_108 : decode cX7_wall 108 = .ok (.iconst (-1), 1) := by decide +kernel
theorem dX7_wall_109 : decode cX7_wall 109 = .ok (.ireturn, 1) := by decide +kernel
theorem dX7_dampBy_0 : decode cX7_dampBy 0 = .ok (.aload_n 0, 1) := by decide +kernel
theorem dX7_dampBy_1 : decode cX7_dampBy 1 = .ok (.getfield 60, 3) := by decide +kernel
theorem dX7_dampBy_4 : decode cX7_dampBy 4 = .ok (.ifCond .ne 7, 3) := by decide +kernel
theorem dX7_dampBy_7 : decode cX7_dampBy 7 = .ok (.iconst 4, 1) := by decide +kernel
theorem dX7_dampBy_8 : decode cX7_dampBy 8 = .ok (.goto 14, 3) := by decide +kernel
theorem dX7_dampBy_11 : decode cX7_dampBy 11 = .ok (.aload_n 0, 1) := by decide +kernel
theorem dX7_dampBy_12 : decode cX7_dampBy 12 = .ok (.getfield 25, 3) := by decide +kernel
theorem dX7_dampBy_15 : decode cX7_dampBy 15 = .ok (.iload_n 1, 1) := by decide +kernel
theorem dX7_dampBy_16 : decode cX7_dampBy 16 = .ok (.aload_n 0, 1) := by decide +kernel
theorem dX7_dampBy_17 : decode cX7_dampBy 17 = .ok (.getfield 60, 3) := by decide +kernel
theorem dX7_dampBy_20 : decode cX7_dampBy 20 = .ok (.irem, 1) := by decide +kernel
theorem dX7_dampBy_21 : decode cX7_dampBy 21 = .ok (.iaload, 1) := by decide +kernel
theorem dX7_dampBy_22 : decode cX7_dampBy 22 = .ok (.ireturn, 1) := by decide +kernel
theorem dX7_damp_0 : decode cX7_damp 0 = .ok (.iload_n 1, 1) := by decide +kernel
theorem dX7_damp_1 : decode cX7_damp 1 = .ok (.iconst 0, 1) := by decide +kernel
theorem dX7_damp_2 : decode cX7_damp 2 = .ok (.sipush 999, 3) := by decide +kernel
theorem dX7_damp_5 : decode cX7_damp 5 = .ok (.invokestatic 63, 3) := by decide +kernel
theorem dX7_damp_8 : decode cX7_damp 8 = .ok (.ifCond .eq 11, 3) := by decide +kernel
theorem dX7_damp_11 : decode cX7_damp 11 = .ok (.aload_n 0, 1) := by decide +kernel
theorem dX7_damp_12 : decode cX7_damp 12 = .ok (.iload_n 1, 1) := by decide +kernel
theorem dX7_damp_13 : decode cX7_damp 13 = .ok (.invokevirtual 134, 3) := by decide +kernel
theorem dX7_damp_16 : decode cX7_damp 16 = .ok (.goto 4, 3) := by decide +kernel
theorem dX7_damp_19 : decode cX7_damp 19 = .ok (.iconst (-1), 1) := by decide +kernel
theorem dX7_damp_20 : decode cX7_damp 20 = .ok (.ireturn, 1) := by decide +kernel
theorem dX7_note_0 : decode cX7_note 0 = .ok (.aload_n 0, 1) := by decide +kernel
theorem dX7_note_1 : decode cX7_note 1 = .ok (.getfield 117, 3) := by decide +kernel
theorem dX7_note_4 : decode cX7_note 4 = .ok (.bipush 8, 2) := by decide +kernel
theorem dX7_note_6 : decode cX7_note 6 = .ok (.if_icmp .ne 30, 3) := by decide +kernel
theorem dX7_note_9 : decode cX7_note 9 = .ok (.aload_n 0, 1) := by decide +kernel
theorem dX7_note_10 : decode cX7_note 10 = .ok (.getfield 37, 3) := by decide +kernel
theorem dX7_note_13 : decode cX7_note 13 = .ok (.bipush 32, 2) := by decide +kernel
theorem dX7_note_15 : decode cX7_note 15 = .ok (.aload_n 0, 1) := by decide +kernel
theorem dX7_note_16 : decode cX7_note 16 = .ok (.getfield 37, 3) := by decide +kernel
theorem dX7_note_19 : decode cX7_note 19 = .ok (.iconst 0, 1) := by decide +kernel
theorem dX7_note_20 : decode cX7_note 20 = .ok (.sipush 224, 3) := by decide +kernel
theorem dX7_note_23 : decode cX7_note 23 = .ok (.invokestatic 110, 3) := by decide +kernel
theorem dX7_note_26 : decode cX7_note 26 = .ok (.aload_n 0, 1) := by decide +kernel
theorem dX7_note_27 : decode cX7_note 27 = .ok (.dup, 1) := by decide +kernel
theorem dX7_note_28 : decode cX7_note 28 = .ok (.getfield 117, 3) := by decide +kernel
theorem dX7_note_31 : decode cX7_note 31 = .ok (.iconst 1, 1) := by decide +kernel
theorem dX7_note_32 : decode cX7_note 32 = .ok (.isub, 1) := by decide +kernel
theorem dX7_note_33 : decode cX7_note 33 = .ok (.putfield 117, 3) := by decide +kernel
theorem dX7_note_36 : decode cX7_note 36 = .ok (.aload_n 0, 1) := by decide +kernel
theorem dX7_note_37 : decode cX7_note 37 = .ok (.getfield 31, 3) := by decide +kernel
theorem dX7_note_40 : decode cX7_note 40 = .ok (.iconst 0, 1) := by decide +kernel
theorem dX7_note_41 : decode cX7_note 41 = .ok (.aload_n 0, 1) := by decide +kernel
theorem dX7_note_42 : decode cX7_note 42 = .ok (.getfield 37, 3) := by decide +kernel
theorem dX7_note_45 : decode cX7_note 45 = .ok (.bipush 32, 2) := by decide +kernel
theorem dX7_note_47 : decode cX7_note 47 = .ok (.aload_n 0, 1) := by decide +kernel
theorem dX7_note_48 : decode cX7_note 48 = .ok (.getfield 117, 3) := by decide +kernel
theorem dX7_note_51 : decode cX7_note 51 = .ok (.imul, 1) := by decide +kernel
theorem dX7_note_52 : decode cX7_note 52 = .ok (.bipush 32, 2) := by decide +kernel
theorem dX7_note_54 : decode cX7_note 54 = .ok (.invokestatic 110, 3) := by decide +kernel
theorem dX7_note_57 : decode cX7_note 57 = .ok (.aload_n 0, 1) := by decide +kernel
theorem dX7_note_58 : decode cX7_note 58 = .ok (.dup, 1) := by decide +kernel
theorem dX7_note_59 : decode cX7_note 59 = .ok (.getfield 117, 3) := by decide +kernel
theorem dX7_note_62 : decode cX7_note 62 = .ok (.iconst 1, 1) := by decide +kernel
theorem dX7_note_63 : decode cX7_note 63 = .ok (.iadd, 1) := by decide +kernel
theorem dX7_note_64 : decode cX7_note 64 = .ok (.putfield 117, 3) := by decide +kernel
theorem dX7_note_67 : decode cX7_note 67 = .ok (.return_, 1) := by decide +kernel
theorem dX7_longFor_0 : decode cX7_longFor 0 = .ok (.iconst 0, 1) := by decide +kernel
theorem dX7_longFor_1 : decode cX7_longFor 1 = .ok (.istore_n 3, 1) := by decide +kernel
theorem dX7_longFor_2 : decode cX7_longFor 2 = .ok (.iload_n 1, 1) := by decide +kernel
theorem dX7_longFor_3 : decode cX7_longFor 3 = .ok (.istore 4, 2) := by decide +kernel
theorem dX7_longFor_5 : decode cX7_longFor 5 = .ok (.iload 4, 2) := by decide +kernel
theorem dX7_longFor_7 : decode cX7_longFor 7 = .ok (.iload_n 1, 1) := by decide +kernel
theorem dX7_longFor_8 : decode cX7_longFor 8 = .ok (.iload_n 2, 1) := by decide +kernel
theorem dX7_longFor_9 : decode cX7_longFor 9 = .ok (.iadd, 1) := by decide +kernel
theorem dX7_longFor_10 : decode cX7_longFor 10 = .ok (.if_icmp .ge 36, 3) := by decide +kernel
theorem dX7_longFor_13 : decode cX7_longFor 13 = .ok (.aload_n 0, 1) := by decide +kernel
theorem dX7_longFor_14 : decode cX7_longFor 14 = .ok (.getfield 22, 3) := by decide +kernel
theorem dX7_longFor_17 : decode cX7_longFor 17 = .ok (.iconst 3, 1) := by decide +kernel
theorem dX7_longFor_18 : decode cX7_longFor 18 = .ok (.iload 4, 2) := by decide +kernel
theorem dX7_longFor_20 : decode cX7_longFor 20 = .ok (.imul, 1) := by decide +kernel
theorem dX7_longFor_21 : decode cX7_longFor 21 = .ok (.iaload, 1) := by decide +kernel
theorem dX7_longFor_22 : decode cX7_longFor 22 = .ok (.iload_n 3, 1) := by decide +kernel
theorem dX7_longFor_23 : decode cX7_longFor 23 = .ok (.if_icmp .le 15, 3) := by decide +kernel
theorem dX7_longFor_26 : decode cX7_longFor 26 = .ok (.aload_n 0, 1) := by decide +kernel
theorem dX7_longFor_27 : decode cX7_longFor 27 = .ok (.getfield 22, 3) := by decide +kernel
theorem dX7_longFor_30 : decode cX7_longFor 30 = .ok (.iconst 3, 1) := by decide +kernel
theorem dX7_longFor_31 : decode cX7_longFor 31 = .ok (.iload 4, 2) := by decide +kernel
theorem dX7_longFor_33 : decode cX7_longFor 33 = .ok (.imul, 1) := by decide +kernel
theorem dX7_longFor_34 : decode cX7_longFor 34 = .ok (.iaload, 1) := by decide +kernel
theorem dX7_longFor_35 : decode cX7_longFor 35 = .ok (.goto 4, 3) := by decide +kernel
theorem dX7_longFor_38 : decode cX7_longFor 38 = .ok (.iload_n 3, 1) := by decide +kernel
theorem dX7_longFor_39 : decode cX7_longFor 39 = .ok (.istore_n 3, 1) := by decide +kernel
theorem dX7_longFor_40 : decode cX7_longFor 40 = .ok (.iinc 4 1, 3) := by decide +kernel
theorem dX7_longFor_43 : decode cX7_longFor 43 = .ok (.goto (-38), 3) := by decide +kernel
theorem dX7_longFor_46 : decode cX7_longFor 46 = .ok (.iload_n 3, 1) := by decide +kernel
theorem dX7_longFor_47 : decode cX7_longFor 47 = .ok (.aload_n 0, 1) := by decide +kernel
theorem dX7_longFor_48 : decode cX7_longFor 48 = .ok (.getfield 28, 3) := by decide +kernel
theorem dX7_longFor_51 : decode cX7_longFor 51 = .ok (.iconst 2, 1) := by decide +kernel
theorem dX7_longFor_52 : decode cX7_longFor 52 = .ok (.iaload, 1) := by decide +kernel
theorem dX7_longFor_53 : decode cX7_longFor 53 = .ok (.iadd, 1) := by decide +kernel
theorem dX7_longFor_54 : decode cX7_longFor 54 = .ok (.ireturn, 1) := by decide +kernel
theorem dX7_cut_0 : decode cX7_cut 0 = .ok (.iload_n 1, 1) := by decide +kernel
theorem dX7_cut_1 : decode cX7_cut 1 = .ok (.iconst 1, 1) := by decide +kernel
theorem dX7_cut_2 : decode cX7_cut 2 = .ok (.bipush 6, 2) := by decide +kernel
theorem dX7_cut_4 : decode cX7_cut 4 = .ok (.invokestatic 63, 3) := by decide +kernel
theorem dX7_cut_7 : decode cX7_cut 7 = .ok (.ifCond .ne 5, 3) := by decide +kernel
theorem dX7_cut_10 : decode cX7_cut 10 = .ok (.iconst (-1), 1) := by decide +kernel
theorem dX7_cut_11 : decode cX7_cut 11 = .ok (.ireturn, 1) := by decide +kernel
theorem dX7_cut_12 : decode cX7_cut 12 = .ok (.aload_n 0, 1) := by decide +kernel
theorem dX7_cut_13 : decode cX7_cut 13 = .ok (.getfield 31, 3) := by decide +kernel
theorem dX7_cut_16 : decode cX7_cut 16 = .ok (.invokestatic 137, 3) := by decide +kernel
theorem dX7_cut_19 : decode cX7_cut 19 = .ok (.istore_n 2, 1) := by decide +kernel
theorem dX7_cut_20 : decode cX7_cut 20 = .ok (.iload_n 1, 1) := by decide +kernel
theorem dX7_cut_21 : decode cX7_cut 21 = .ok (.aload_n 0, 1) := by decide +kernel
theorem dX7_cut_22 : decode cX7_cut 22 = .ok (.getfield 28, 3) := by decide +kernel
theorem dX7_cut_25 : decode cX7_cut 25 = .ok (.iconst 0, 1) := by decide +kernel
theorem dX7_cut_26 : decode cX7_cut 26 = .ok (.iaload, 1) := by decide +kernel
theorem dX7_cut_27 : decode cX7_cut 27 = .ok (.if_icmp .gt 30, 3) := by decide +kernel
theorem dX7_cut_30 : decode cX7_cut 30 = .ok (.iload_n 2, 1) := by decide +kernel
theorem dX7_cut_31 : decode cX7_cut 31 = .ok (.iload_n 1, 1) := by decide +kernel
theorem dX7_cut_32 : decode cX7_cut 32 = .ok (.iadd, 1) := by decide +kernel
theorem dX7_cut_33 : decode cX7_cut 33 = .ok (.aload_n 0, 1) := by decide +kernel
theorem dX7_cut_34 : decode cX7_cut 34 = .ok (.getfield 56, 3) := by decide +kernel
theorem dX7_cut_37 : decode cX7_cut 37 = .ok (.if_icmp .gt 20, 3) := by decide +kernel
theorem dX7_cut_40 : decode cX7_cut 40 = .ok (.aload_n 0, 1) := by decide +kernel
theorem dX7_cut_41 : decode cX7_cut 41 = .ok (.iload_n 2, 1) := by decide +kernel
theorem dX7_cut_42 : decode cX7_cut 42 = .ok (.iload_n 1, 1) := by decide +kernel
theorem dX7_cut_43 : decode cX7_cut 43 = .ok (.invokevirtual 141, 3) := by decide +kernel
theorem dX7_cut_46 : decode cX7_cut 46 = .ok (.aload_n 0, 1) := by decide +kernel
theorem dX7_cut_47 : decode cX7_cut 47 = .ok (.aload_n 0, 1) := by decide +kernel
theorem dX7_cut_48 : decode cX7_cut 48 = .ok (.getfield 31, 3) := by decide +kernel
theorem dX7_cut_51 : decode cX7_cut 51 = .ok (.invokevirtual 145, 3) := by decide +kernel
theorem dX7_cut_54 : decode cX7_cut 54 = .ok (.if_icmp .le 6, 3) := by decide +kernel
theorem dX7_cut_57 : decode cX7_cut 57 = .ok (.bipush (-2), 2) := by decide +kernel
theorem dX7_cut_59 : decode cX7_cut 59 = .ok (.ireturn, 1) := by decide +kernel
theorem dX7_cut_60 : decode cX7_cut 60 = .ok (.aload_n 0, 1) := by decide +kernel
theorem dX7_cut_61 : decode cX7_cut 61 = .ok (.invokevirtual 148, 3) := by decide +kernel
theorem dX7_cut_64 : decode cX7_cut 64 = .ok (.aload_n 0, 1) := by decide +kernel
theorem dX7_cut_65 : decode cX7_cut 65 = .ok (.iload_n 2, 1) := by decide +kernel
theorem dX7_cut_66 : decode cX7_cut 66 = .ok (.iload_n 1, 1) := by decide +kernel
theorem dX7_cut_67 : decode cX7_cut 67 = .ok (.invokevirtual 141, 3) := by decide +kernel
theorem dX7_cut_70 : decode cX7_cut 70 = .ok (.istore_n 3, 1) := by decide +kernel
theorem dX7_cut_71 : decode cX7_cut 71 = .ok (.aload_n 0, 1) := by decide +kernel
theorem dX7_cut_72 : decode cX7_cut 72 = .ok (.getfield 31, 3) := by decide +kernel
theorem dX7_cut_75 : decode cX7_cut 75 = .ok (.iconst 1, 1) := by decide +kernel
theorem dX7_cut_76 : decode cX7_cut 76 = .ok (.aload_n 0, 1) := by decide +kernel
theorem dX7_cut_77 : decode cX7_cut 77 = .ok (.getfield 31, 3) := by decide +kernel
theorem dX7_cut_80 : decode cX7_cut 80 = .ok (.iconst 0, 1) := by decide +kernel
theorem dX7_cut_81 : decode cX7_cut 81 = .ok (.iaload, 1) := by decide +kernel
theorem dX7_cut_82 : decode cX7_cut 82 = .ok (.iadd, 1) := by decide +kernel
theorem dX7_cut_83 : decode cX7_cut 83 = .ok (.iload_n 1, 1) := by decide +kernel
theorem dX7_cut_84 : decode cX7_cut 84 = .ok (.iastore, 1) := by decide +kernel
theorem dX7_cut_85 : decode cX7_cut 85 = .ok (.aload_n 0, 1) := by decide +kernel
theorem dX7_cut_86 : decode cX7_cut 86 = .ok (.getfield 31, 3) := by decide +kernel
theorem dX7_cut_89 : decode cX7_cut 89 = .ok (.bipush 13, 2) := by decide +kernel
theorem dX7_cut_91 : decode cX7_cut 91 = .ok (.aload_n 0, 1) := by decide +kernel
theorem dX7_cut_92 : decode cX7_cut 92 = .ok (.getfield 31, 3) := by decide +kernel
theorem dX7_cut_95 : decode cX7_cut 95 = .ok (.iconst 0, 1) := by decide +kernel
theorem dX7_cut_96 : decode cX7_cut 96 = .ok (.iaload, 1) := by decide +kernel
theorem dX7_cut_97 : decode cX7_cut 97 = .ok (.iadd, 1) := by decide +kernel
theorem dX7_cut_98 : decode cX7_cut 98 = .ok (.iload_n 3, 1) := by decide +kernel
theorem dX7_cut_99 : decode cX7_cut 99 = .ok (.iastore, 1) := by decide +kernel
theorem dX7_cut_100 : decode cX7_cut 100 = .ok (.aload_n 0, 1) := by decide +kernel
theorem dX7_cut_101 : decode cX7_cut 101 = .ok (.getfield 31, 3) := by decide +kernel
theorem dX7_cut_104 : decode cX7_cut 104 = .ok (.iconst 0, 1) := by decide +kernel
theorem dX7_cut_105 : decode cX7_cut 105 = .ok (.dup2, 1) := by decide +kernel
theorem dX7_cut_106 : decode cX7_cut 106 = .ok (.iaload, 1) := by decide +kernel
theorem dX7_cut_107 : decode cX7_cut 107 = .ok (.iconst 1, 1) := by decide +kernel
theorem dX7_cut_108 : decode cX7_cut 108 = .ok (.iadd, 1) := by decide +kernel
theorem dX7_cut_109 : decode cX7_cut 109 = .ok (.iastore, 1) := by decide +kernel
theorem dX7_cut_110 : decode cX7_cut 110 = .ok (.iload_n 3, 1) := by decide +kernel
theorem dX7_cut_111 : decode cX7_cut 111 = .ok (.ireturn, 1) := by decide +kernel
theorem dX7_givesBy_0 : decode cX7_givesBy 0 = .ok (.iload_n 0, 1) := by decide +kernel
theorem dX7_givesBy_1 : decode cX7_givesBy 1 = .ok (.ifCond .ne 9, 3) := by decide +kernel
theorem dX7_givesBy_4 : decode cX7_givesBy 4 = .ok (.iload_n 1, 1) := by decide +kernel
theorem dX7_givesBy_5 : decode cX7_givesBy 5 = .ok (.iconst 2, 1) := by decide +kernel
theorem dX7_givesBy_6 : decode cX7_givesBy 6 = .ok (.idiv, 1) := by decide +kernel
theorem dX7_givesBy_7 : decode cX7_givesBy 7 = .ok (.goto 26, 3) := by decide +kernel
theorem dX7_givesBy_10 : decode cX7_givesBy 10 = .ok (.iload_n 0, 1) := by decide +kernel
theorem dX7_givesBy_11 : decode cX7_givesBy 11 = .ok (.iconst 1, 1) := by decide +kernel
theorem dX7_givesBy_12 : decode cX7_givesBy 12 = .ok (.if_icmp .ne 7, 3) := by decide +kernel
theorem dX7_givesBy_15 : decode cX7_givesBy 15 = .ok (.iload_n 1, 1) := by decide +kernel
theorem dX7_givesBy_16 : decode cX7_givesBy 16 = .ok (.goto 17, 3) := by decide +kernel
theorem dX7_givesBy_19 : decode cX7_givesBy 19 = .ok (.iload_n 0, 1) := by decide +kernel
theorem dX7_givesBy_20 : decode cX7_givesBy 20 = .ok (.iconst 2, 1) := by decide +kernel
theorem dX7_givesBy_21 : decode cX7_givesBy 21 = .ok (.if_icmp .ne 9, 3) := by decide +kernel
theorem dX7_givesBy_24 : decode cX7_givesBy 24 = .ok (.iconst 2, 1) := by decide +kernel
theorem dX7_givesBy_25 : decode cX7_givesBy 25 = .ok (.iload_n 1, 1) := by decide +kernel
theorem dX7_givesBy_26 : decode cX7_givesBy 26 = .ok (.imul, 1) := by decide +kernel
theorem dX7_givesBy_27 : decode cX7_givesBy 27 = .ok (.goto 6, 3) := by decide +kernel
theorem dX7_givesBy_30 : decode cX7_givesBy 30 = .ok (.iload_n 1, 1) := by decide +kernel
theorem dX7_givesBy_31 : decode cX7_givesBy 31 = .ok (.iload_n 2, 1) := by decide +kernel
theorem dX7_givesBy_32 : decode cX7_givesBy 32 = .ok (.iadd, 1) := by decide +kernel
theorem dX7_givesBy_33 : decode cX7_givesBy 33 = .ok (.ireturn, 1) := by decide +kernel
theorem dX7_tightBy_0 : decode cX7_tightBy 0 = .ok (.aload_n 1, 1) := by decide +kernel
theorem dX7_tightBy_1 : decode cX7_tightBy 1 = .ok (.bipush 29, 2) := by decide +kernel
theorem dX7_tightBy_3 : decode cX7_tightBy 3 = .ok (.iaload, 1) := by decide +kernel
theorem dX7_tightBy_4 : decode cX7_tightBy 4 = .ok (.ifCond .ne 5, 3) := by decide +kernel
theorem dX7_tightBy_7 : decode cX7_tightBy 7 = .ok (.iconst 2, 1) := by decide +kernel
theorem dX7_tightBy_8 : decode cX7_tightBy 8 = .ok (.ireturn, 1) := by decide +kernel
theorem dX7_tightBy_9 : decode cX7_tightBy 9 = .ok (.iload_n 2, 1) := by decide +kernel
theorem dX7_tightBy_10 : decode cX7_tightBy 10 = .ok (.iconst 2, 1) := by decide +kernel
theorem dX7_tightBy_11 : decode cX7_tightBy 11 = .ok (.iadd, 1) := by decide +kernel
theorem dX7_tightBy_12 : decode cX7_tightBy 12 = .ok (.iconst 4, 1) := by decide +kernel
theorem dX7_tightBy_13 : decode cX7_tightBy 13 = .ok (.irem, 1) := by decide +kernel
theorem dX7_tightBy_14 : decode cX7_tightBy 14 = .ok (.istore 4, 2) := by decide +kernel
theorem dX7_tightBy_16 : decode cX7_tightBy 16 = .ok (.aload_n 1, 1) := by decide +kernel
theorem dX7_tightBy_17 : decode cX7_tightBy 17 = .ok (.iload 4, 2) := by decide +kernel
theorem dX7_tightBy_19 : decode cX7_tightBy 19 = .ok (.invokestatic 130, 3) := by decide +kernel
theorem dX7_tightBy_22 : decode cX7_tightBy 22 = .ok (.ifCond .eq 15, 3) := by decide +kernel
theorem dX7_tightBy_25 : decode cX7_tightBy 25 = .ok (.aload_n 1, 1) := by decide +kernel
theorem dX7_tightBy_26 : decode cX7_tightBy 26 = .ok (.bipush 25, 2) := by decide +kernel
theorem dX7_tightBy_28 : decode cX7_tightBy 28 = .ok (.iload 4, 2) := by decide +kernel
theorem dX7_tightBy_30 : decode cX7_tightBy 30 = .ok (.iadd, 1) := by decide +kernel
theorem dX7_tightBy_31 : decode cX7_tightBy 31 = .ok (.iaload, 1) := by decide +kernel
theorem dX7_tightBy_32 : decode cX7_tightBy 32 = .ok (.iconst 2, 1) := by decide +kernel
theorem dX7_tightBy_33 : decode cX7_tightBy 33 = .ok (.idiv, 1) := by decide +kernel
theorem dX7_tightBy_34 : decode cX7_tightBy 34 = .ok (.goto 4, 3) := by decide +kernel
theorem dX7_tightBy_37 : decode cX7_tightBy 37 = .ok (.iconst 0, 1) := by decide +kernel
theorem dX7_tightBy_38 : decode cX7_tightBy 38 = .ok (.istore 5, 2) := by decide +kernel
theorem dX7_tightBy_40 : decode cX7_tightBy 40 = .ok (.iload_n 3, 1) := by decide +kernel
theorem dX7_tightBy_41 : decode cX7_tightBy 41 = .ok (.iload 5, 2) := by decide +kernel
theorem dX7_tightBy_43 : decode cX7_tightBy 43 = .ok (.iadd, 1) := by decide +kernel
theorem dX7_tightBy_44 : decode cX7_tightBy 44 = .ok (.aload_n 0, 1) := by decide +kernel
theorem dX7_tightBy_45 : decode cX7_tightBy 45 = .ok (.getfield 28, 3) := by decide +kernel
theorem dX7_tightBy_48 : decode cX7_tightBy 48 = .ok (.iconst 4, 1) := by decide +kernel
theorem dX7_tightBy_49 : decode cX7_tightBy 49 = .ok (.iaload, 1) := by decide +kernel
theorem dX7_tightBy_50 : decode cX7_tightBy 50 = .ok (.aload_n 0, 1) := by decide +kernel
theorem dX7_tightBy_51 : decode cX7_tightBy 51 = .ok (.getfield 28, 3) := by decide +kernel
theorem dX7_tightBy_54 : decode cX7_tightBy 54 = .ok (.iconst 5, 1) := by decide +kernel
theorem dX7_tightBy_55 : decode cX7_tightBy 55 = .ok (.iaload, 1) := by decide +kernel
theorem dX7_tightBy_56 : decode cX7_tightBy 56 = .ok (.aload_n 1, 1) := by decide +kernel
theorem dX7_tightBy_57 : decode cX7_tightBy 57 = .ok (.bipush 29, 2) := by decide +kernel
theorem dX7_tightBy_59 : decode cX7_tightBy 59 = .ok (.iaload, 1) := by decide +kernel
theorem dX7_tightBy_60 : decode cX7_tightBy 60 = .ok (.invokestatic 151, 3) := by decide +kernel
theorem dX7_tightBy_63 : decode cX7_tightBy 63 = .ok (.invokestatic 154, 3) := by decide +kernel
theorem dX7_tightBy_66 : decode cX7_tightBy 66 = .ok (.isub, 1) := by decide +kernel
theorem dX7_tightBy_67 : decode cX7_tightBy 67 = .ok (.istore 6, 2) := by decide +kernel
theorem dX7_tightBy_69 : decode cX7_tightBy 69 = .ok (.iload 6, 2) := by decide +kernel
theorem dX7_tightBy_71 : decode cX7_tightBy 71 = .ok (.ifCond .ge 7, 3) := by decide +kernel
theorem dX7_tightBy_74 : decode cX7_tightBy 74 = .ok (.iconst 0, 1) := by decide +kernel
theorem dX7_tightBy_75 : decode cX7_tightBy 75 = .ok (.goto 5, 3) := by decide +kernel
theorem dX7_tightBy_78 : decode cX7_tightBy 78 = .ok (.iload 6, 2) := by decide +kernel
theorem dX7_tightBy_80 : decode cX7_tightBy 80 = .ok (.ireturn, 1) := by decide +kernel
theorem dX7_isFree_0 : decode cX7_isFree 0 = .ok (.aload_n 0, 1) := by decide +kernel
theorem dX7_isFree_1 : decode cX7_isFree 1 = .ok (.bipush 29, 2) := by decide +kernel
theorem dX7_isFree_3 : decode cX7_isFree 3 = .ok (.iaload, 1) := by decide +kernel
theorem dX7_isFree_4 : decode cX7_isFree 4 = .ok (.aload_n 0, 1) := by decide +kernel
theorem dX7_isFree_5 : decode cX7_isFree 5 = .ok (.bipush 30, 2) := by decide +kernel
theorem dX7_isFree_7 : decode cX7_isFree 7 = .ok (.iaload, 1) := by decide +kernel
theorem dX7_isFree_8 : decode cX7_isFree 8 = .ok (.ior, 1) := by decide +kernel
theorem dX7_isFree_9 : decode cX7_isFree 9 = .ok (.iload_n 1, 1) := by decide +kernel
theorem dX7_isFree_10 : decode cX7_isFree 10 = .ok (.invokestatic 126, 3) := by decide +kernel
theorem dX7_isFree_13 : decode cX7_isFree 13 = .ok (.ifCond .ne 7, 3) := by decide +kernel
theorem dX7_isFree_16 : decode cX7_isFree 16 = .ok (.iconst 1, 1) := by decide +kernel
theorem dX7_isFree_17 : decode cX7_isFree 17 = .ok (.goto 4, 3) := by decide +kernel
theorem dX7_isFree_20 : decode cX7_isFree 20 = .ok (.iconst 0, 1) := by decide +kernel
theorem dX7_isFree_21 : decode cX7_isFree 21 = .ok (.ireturn, 1) := by decide +kernel
theorem dX7_kick_0 : decode cX7_kick 0 = .ok (.aload_n 0, 1) := by decide +kernel
theorem dX7_kick_1 : decode cX7_kick 1 = .ok (.aload_n 1, 1) := by decide +kernel
theorem dX7_kick_2 : decode cX7_kick 2 = .ok (.iload_n 2, 1) := by decide +kernel
theorem dX7_kick_3 : decode cX7_kick 3 = .ok (.iload_n 3, 1) := by decide +kernel
theorem dX7_kick_4 : decode cX7_kick 4 = .ok (.invokevirtual 158, 3) := by decide +kernel
theorem dX7_kick_7 : decode cX7_kick 7 = .ok (.istore 4, 2) := by decide +kernel
theorem dX7_kick_9 : decode cX7_kick 9 = .ok (.iload 4, 2) := by decide +kernel
theorem dX7_kick_11 : decode cX7_kick 11 = .ok (.aload_n 0, 1) := by decide +kernel
theorem dX7_kick_12 : decode cX7_kick 12 = .ok (.getfield 28, 3) := by decide +kernel
theorem dX7_kick_15 : decode cX7_kick 15 = .ok (.iconst 3, 1) := by decide +kernel
theorem dX7_kick_16 : decode cX7_kick 16 = .ok (.iaload, 1) := by decide +kernel
theorem dX7_kick_17 : decode cX7_kick 17 = .ok (.if_icmp .le 18, 3) := by decide +kernel
theorem dX7_kick_20 : decode cX7_kick 20 = .ok (.aload_n 1, 1) := by decide +kernel
theorem dX7_kick_21 : decode cX7_kick 21 = .ok (.bipush 30, 2) := by decide +kernel
theorem dX7_kick_23 : decode cX7_kick 23 = .ok (.aload_n 1, 1) := by decide +kernel
theorem dX7_kick_24 : decode cX7_kick 24 = .ok (.bipush 30, 2) := by decide +kernel
theorem dX7_kick_26 : decode cX7_kick 26 = .ok (.iaload, 1) := by decide +kernel
theorem dX7_kick_27 : decode cX7_kick 27 = .ok (.iconst 1, 1) := by decide +kernel
theorem dX7_kick_28 : decode cX7_kick 28 = .ok (.iload_n 2, 1) := by decide +kernel
theorem dX7_kick_29 : decode cX7_kick 29 = .ok (.ishl, 1) := by decide +kernel
theorem dX7_kick_30 : decode cX7_kick 30 = .ok (.ior, 1) := by decide +kernel
theorem dX7_kick_31 : decode cX7_kick 31 = .ok (.iastore, 1) := by decide +kernel
theorem dX7_kick_32 : decode cX7_kick 32 = .ok (.goto 23, 3) := by decide +kernel
theorem dX7_kick_35 : decode cX7_kick 35 = .ok (.aload_n 1, 1) := by decide +kernel
theorem dX7_kick_36 : decode cX7_kick 36 = .ok (.bipush 29, 2) := by decide +kernel
theorem dX7_kick_38 : decode cX7_kick 38 = .ok (.aload_n 1, 1) := by decide +kernel
theorem dX7_kick_39 : decode cX7_kick 39 = .ok (.bipush 29, 2) := by decide +kernel
theorem dX7_kick_41 : decode cX7_kick 41 = .ok (.iaload, 1) := by decide +kernel
theorem dX7_kick_42 : decode cX7_kick 42 = .ok (.iconst 1, 1) := by decide +kernel
theorem dX7_kick_43 : decode cX7_kick 43 = .ok (.iload_n 2, 1) := by decide +kernel
theorem dX7_kick_44 : decode cX7_kick 44 = .ok (.ishl, 1) := by decide +kernel
theorem dX7_kick_45 : decode cX7_kick 45 = .ok (.ior, 1) := by decide +kernel
theorem dX7_kick_46 : decode cX7_kick 46 = .ok (.iastore, 1) := by decide +kernel
theorem dX7_kick_47 : decode cX7_kick 47 = .ok (.aload_n 1, 1) := by decide +kernel
theorem dX7_kick_48 : decode cX7_kick 48 = .ok (.bipush 25, 2) := by decide +kernel
theorem dX7_kick_50 : decode cX7_kick 50 = .ok (.iload_n 2, 1) := by decide +kernel
theorem dX7_kick_51 : decode cX7_kick 51 = .ok (.iadd, 1) := by decide +kernel
theorem dX7_kick_52 : decode cX7_kick 52 = .ok (.iload 4, 2) := by decide +kernel
theorem dX7_kick_54 : decode cX7_kick 54 = .ok (.iastore, 1) := by decide +kernel
theorem dX7_kick_55 : decode cX7_kick 55 = .ok (.return_, 1) := by decide +kernel
theorem dX7_isCovered_0 : decode cX7_isCovered 0 = .ok (.aload_n 0, 1) := by decide +kernel
theorem dX7_isCovered_1 : decode cX7_isCovered 1 = .ok (.getfield 31, 3) := by decide +kernel
theorem dX7_isCovered_4 : decode cX7_isCovered 4 = .ok (.invokestatic 137, 3) := by decide +kernel
theorem dX7_isCovered_7 : decode cX7_isCovered 7 = .ok (.aload_n 0, 1) := by decide +kernel
theorem dX7_isCovered_8 : decode cX7_isCovered 8 = .ok (.getfield 56, 3) := by decide +kernel
theorem dX7_isCovered_11 : decode cX7_isCovered 11 = .ok (.if_icmp .ne 7, 3) := by decide +kernel
theorem dX7_isCovered_14 : decode cX7_isCovered 14 = .ok (.iconst 1, 1) := by decide +kernel
theorem dX7_isCovered_15 : decode cX7_isCovered 15 = .ok (.goto 4, 3) := by decide +kernel
theorem dX7_isCovered_18 : decode cX7_isCovered 18 = .ok (.iconst 0, 1) := by decide +kernel
theorem dX7_isCovered_19 : decode cX7_isCovered 19 = .ok (.ireturn, 1) := by decide +kernel
theorem dX7_hook_0 : decode cX7_hook 0 = .ok (.iload_n 1, 1) := by decide +kernel
theorem dX7_hook_1 : decode cX7_hook 1 = .ok (.iconst 0, 1) := by decide +kernel
theorem dX7_hook_2 : decode cX7_hook 2 = .ok (.iconst 3, 1) := by decide +kernel
theorem dX7_hook_3 : decode cX7_hook 3 = .ok (.invokestatic 63, 3) := by decide +kernel
theorem dX7_hook_6 : decode cX7_hook 6 = .ok (.ifCond .eq 13, 3) := by decide +kernel
theorem dX7_hook_9 : decode cX7_hook 9 = .ok (.iload_n 2, 1) := by decide +kernel
theorem dX7_hook_10 : decode cX7_hook 10 = .ok (.iconst 0, 1) := by decide +kernel
theorem dX7_hook_11 : decode cX7_hook 11 = .ok (.bipush 20, 2) := by decide +kernel
theorem dX7_hook_13 : decode cX7_hook 13 = .ok (.invokestatic 63, 3) := by decide +kernel
theorem dX7_hook_16 : decode cX7_hook 16 = .ok (.ifCond .ne 5, 3) := by decide +kernel
theorem dX7_hook_19 : decode cX7_hook 19 = .ok (.iconst (-1), 1) := by decide +kernel
theorem dX7_hook_20 : decode cX7_hook 20 = .ok (.ireturn, 1) := by decide +kernel
theorem dX7_hook_21 : decode cX7_hook 21 = .ok (.aload_n 0, 1) := by decide +kernel
theorem dX7_hook_22 : decode cX7_hook 22 = .ok (.invokevirtual 162, 3) := by decide +kernel
theorem dX7_hook_25 : decode cX7_hook 25 = .ok (.ifCond .eq 14, 3) := by decide +kernel
theorem dX7_hook_28 : decode cX7_hook 28 = .ok (.aload_n 0, 1) := by decide +kernel
theorem dX7_hook_29 : decode cX7_hook 29 = .ok (.getfield 31, 3) := by decide +kernel
theorem dX7_hook_32 : decode cX7_hook 32 = .ok (.iload_n 1, 1) := by decide +kernel
theorem dX7_hook_33 : decode cX7_hook 33 = .ok (.invokestatic 165, 3) := by decide +kernel
theorem dX7_hook_36 : decode cX7_hook 36 = .ok (.ifCond .ne 6, 3) := by decide +kernel
theorem dX7_hook_39 : decode cX7_hook 39 = .ok (.bipush (-2), 2) := by decide +kernel
theorem dX7_hook_41 : decode cX7_hook 41 = .ok (.ireturn, 1) := by decide +kernel
theorem dX7_hook_42 : decode cX7_hook 42 = .ok (.aload_n 0, 1) := by decide +kernel
theorem dX7_hook_43 : decode cX7_hook 43 = .ok (.invokevirtual 148, 3) := by decide +kernel
theorem dX7_hook_46 : decode cX7_hook 46 = .ok (.aload_n 0, 1) := by decide +kernel
theorem dX7_hook_47 : decode cX7_hook 47 = .ok (.aload_n 0, 1) := by decide +kernel
theorem dX7_hook_48 : decode cX7_hook 48 = .ok (.getfield 31, 3) := by decide +kernel
theorem dX7_hook_51 : decode cX7_hook 51 = .ok (.iload_n 1, 1) := by decide +kernel
theorem dX7_hook_52 : decode cX7_hook 52 = .ok (.iload_n 2, 1) := by decide +kernel
theorem dX7_hook_53 : decode cX7_hook 53 = .ok (.invokevirtual 168, 3) := by decide +kernel
theorem dX7_hook_56 : decode cX7_hook 56 = .ok (.aload_n 0, 1) := by decide +kernel
theorem dX7_hook_57 : decode cX7_hook 57 = .ok (.getfield 31, 3) := by decide +kernel
theorem dX7_hook_60 : decode cX7_hook 60 = .ok (.bipush 25, 2) := by decide +kernel
theorem dX7_hook_62 : decode cX7_hook 62 = .ok (.iload_n 1, 1) := by decide +kernel
theorem dX7_hook_63 : decode cX7_hook 63 = .ok (.iadd, 1) := by decide +kernel
theorem dX7_hook_64 : decode cX7_hook 64 = .ok (.iaload, 1) := by decide +kernel
theorem dX7_hook_65 : decode cX7_hook 65 = .ok (.ireturn, 1) := by decide +kernel
theorem dX7_loosen_0 : decode cX7_loosen 0 = .ok (.aload_n 0, 1) := by decide +kernel
theorem dX7_loosen_1 : decode cX7_loosen 1 = .ok (.bipush 29, 2) := by decide +kernel
theorem dX7_loosen_3 : decode cX7_loosen 3 = .ok (.aload_n 0, 1) := by decide +kernel
theorem dX7_loosen_4 : decode cX7_loosen 4 = .ok (.bipush 29, 2) := by decide +kernel
theorem dX7_loosen_6 : decode cX7_loosen 6 = .ok (.iaload, 1) := by decide +kernel
theorem dX7_loosen_7 : decode cX7_loosen 7 = .ok (.iconst 1, 1) := by decide +kernel
theorem dX7_loosen_8 : decode cX7_loosen 8 = .ok (.iload_n 1, 1) := by decide +kernel
theorem dX7_loosen_9 : decode cX7_loosen 9 = .ok (.ishl, 1) := by decide +kernel
theorem dX7_loosen_10 : decode cX7_loosen 10 = .ok (.iconst (-1), 1) := by decide +kernel
theorem dX7_loosen_11 : decode cX7_loosen 11 = .ok (.ixor, 1) := by decide +kernel
theorem dX7_loosen_12 : decode cX7_loosen 12 = .ok (.iand, 1) := by decide +kernel
theorem dX7_loosen_13 : decode cX7_loosen 13 = .ok (.iastore, 1) := by decide +kernel
theorem dX7_loosen_14 : decode cX7_loosen 14 = .ok (.aload_n 0, 1) := by decide +kernel
theorem dX7_loosen_15 : decode cX7_loosen 15 = .ok (.bipush 25, 2) := by decide +kernel
theorem dX7_loosen_17 : decode cX7_loosen 17 = .ok (.iload_n 1, 1) := by decide +kernel
theorem dX7_loosen_18 : decode cX7_loosen 18 = .ok (.iadd, 1) := by decide +kernel
theorem dX7_loosen_19 : decode cX7_loosen 19 = .ok (.iconst 0, 1) := by decide +kernel
theorem dX7_loosen_20 : decode cX7_loosen 20 = .ok (.iastore, 1) := by decide +kernel
theorem dX7_loosen_21 : decode cX7_loosen 21 = .ok (.return_, 1) := by decide +kernel
theorem dX7_letGo_0 : decode cX7_letGo 0 = .ok (.iload_n 1, 1) := by decide +kernel
theorem dX7_letGo_1 : decode cX7_letGo 1 = .ok (.iconst 0, 1) := by decide +kernel
theorem dX7_letGo_2 : decode cX7_letGo 2 = .ok (.iconst 3, 1) := by decide +kernel
theorem dX7_letGo_3 : decode cX7_letGo 3 = .ok (.invokestatic 63, 3) := by decide +kernel
theorem dX7_letGo_6 : decode cX7_letGo 6 = .ok (.ifCond .ne 5, 3) := by decide +kernel
theorem dX7_letGo_9 : decode cX7_letGo 9 = .ok (.iconst (-1), 1) := by decide +kernel
theorem dX7_letGo_10 : decode cX7_letGo 10 = .ok (.ireturn, 1) := by decide +kernel
theorem dX7_letGo_11 : decode cX7_letGo 11 = .ok (.aload_n 0, 1) := by decide +kernel
theorem dX7_letGo_12 : decode cX7_letGo 12 = .ok (.getfield 31, 3) := by decide +kernel
theorem dX7_letGo_15 : decode cX7_letGo 15 = .ok (.iload_n 1, 1) := by decide +kernel
theorem dX7_letGo_16 : decode cX7_letGo 16 = .ok (.invokestatic 130, 3) := by decide +kernel
theorem dX7_letGo_19 : decode cX7_letGo 19 = .ok (.ifCond .ne 6, 3) := by decide +kernel
theorem dX7_letGo_22 : decode cX7_letGo 22 = .ok (.bipush (-2), 2) := by decide +kernel
theorem dX7_letGo_24 : decode cX7_letGo 24 = .ok (.ireturn, 1) := by decide +kernel
theorem dX7_letGo_25 : decode cX7_letGo 25 = .ok (.aload_n 0, 1) := by decide +kernel
theorem dX7_letGo_26 : decode cX7_letGo 26 = .ok (.invokevirtual 148, 3) := by decide +kernel
theorem dX7_letGo_29 : decode cX7_letGo 29 = .ok (.aload_n 0, 1) := by decide +kernel
theorem dX7_letGo_30 : decode cX7_letGo 30 = .ok (.getfield 31, 3) := by decide +kernel
theorem dX7_letGo_33 : decode cX7_letGo 33 = .ok (.bipush 25, 2) := by decide +kernel
theorem dX7_letGo_35 : decode cX7_letGo 35 = .ok (.iload_n 1, 1) := by decide +kernel
theorem dX7_letGo_36 : decode cX7_letGo 36 = .ok (.iadd, 1) := by decide +kernel
theorem dX7_letGo_37 : decode cX7_letGo 37 = .ok (.iaload, 1) := by decide +kernel
theorem dX7_letGo_38 : decode cX7_letGo 38 = .ok (.istore_n 2, 1) := by decide +kernel
theorem dX7_letGo_39 : decode cX7_letGo 39 = .ok (.aload_n 0, 1) := by decide +kernel
theorem dX7_letGo_40 : decode cX7_letGo 40 = .ok (.getfield 31, 3) := by decide +kernel
theorem dX7_letGo_43 : decode cX7_letGo 43 = .ok (.iload_n 1, 1) := by decide +kernel
theorem dX7_letGo_44 : decode cX7_letGo 44 = .ok (.invokestatic 172, 3) := by decide +kernel
theorem dX7_letGo_47 : decode cX7_letGo 47 = .ok (.iload_n 2, 1) := by decide +kernel
theorem dX7_letGo_48 : decode cX7_letGo 48 = .ok (.ireturn, 1) := by decide +kernel
theorem dX7_passMonth_0 : decode cX7_passMonth 0 = .ok (.aload_n 0, 1) := by decide +kernel
theorem dX7_passMonth_1 : decode cX7_passMonth 1 = .ok (.aload_n 1, 1) := by decide +kernel
theorem dX7_passMonth_2 : decode cX7_passMonth 2 = .ok (.bipush 31, 2) := by decide +kernel
theorem dX7_passMonth_4 : decode cX7_passMonth 4 = .ok (.iaload, 1) := by decide +kernel
theorem dX7_passMonth_5 : decode cX7_passMonth 5 = .ok (.invokevirtual 134, 3) := by decide +kernel
theorem dX7_passMonth_8 : decode cX7_passMonth 8 = .ok (.iconst 3, 1) := by decide +kernel
theorem dX7_passMonth_9 : decode cX7_passMonth 9 = .ok (.idiv, 1) := by decide +kernel
theorem dX7_passMonth_10 : decode cX7_passMonth 10 = .ok (.istore_n 2, 1) := by decide +kernel
theorem dX7_passMonth_11 : decode cX7_passMonth 11 = .ok (.iconst 0, 1) := by decide +kernel
theorem dX7_passMonth_12 : decode cX7_passMonth 12 = .ok (.istore_n 3, 1) := by decide +kernel
theorem dX7_passMonth_13 : decode cX7_passMonth 13 = .ok (.iload_n 3, 1) := by decide +kernel
theorem dX7_passMonth_14 : decode cX7_passMonth 14 = .ok (.iconst 4, 1) := by decide +kernel
theorem dX7_passMonth_15 : decode cX7_passMonth 15 = .ok (.if_icmp .ge 37, 3) := by decide +kernel
theorem dX7_passMonth_18 : decode cX7_passMonth 18 = .ok (.aload_n 1, 1) := by decide +kernel
theorem dX7_passMonth_19 : decode cX7_passMonth 19 = .ok (.bipush 25, 2) := by decide +kernel
theorem dX7_passMonth_21 : decode cX7_passMonth 21 = .ok (.iload_n 3, 1) := by decide +kernel
theorem dX7_passMonth_22 : decode cX7_passMonth 22 = .ok (.iadd, 1) := by decide +kernel
theorem dX7_passMonth_23 : decode cX7_passMonth 23 = .ok (.aload_n 1, 1) := by decide +kernel
theorem dX7_passMonth_24 : decode cX7_passMonth 24 = .ok (.bipush 25, 2) := by decide +kernel
theorem dX7_passMonth_26 : decode cX7_passMonth 26 = .ok (.iload_n 3, 1) := by decide +kernel
theorem dX7_passMonth_27 : decode cX7_passMonth 27 = .ok (.iadd, 1) := by decide +kernel
theorem dX7_passMonth_28 : decode cX7_passMonth 28 = .ok (.iaload, 1) := by decide +kernel
theorem dX7_passMonth_29 : decode cX7_passMonth 29 = .ok (.iload_n 2, 1) := by decide +kernel
theorem dX7_passMonth_30 : decode cX7_passMonth 30 = .ok (.if_icmp .le 14, 3) := by decide +kernel
theorem dX7_passMonth_33 : decode cX7_passMonth 33 = .ok (.aload_n 1, 1) := by decide +kernel
theorem dX7_passMonth_34 : decode cX7_passMonth 34 = .ok (.bipush 25, 2) := by decide +kernel
theorem dX7_passMonth_36 : decode cX7_passMonth 36 = .ok (.iload_n 3, 1) := by decide +kernel
theorem dX7_passMonth_37 : decode cX7_passMonth 37 = .ok (.iadd, 1) := by decide +kernel
theorem dX7_passMonth_38 : decode cX7_passMonth 38 = .ok (.iaload, 1) := by decide +kernel
theorem dX7_passMonth_39 : decode cX7_passMonth 39 = .ok (.iload_n 2, 1) := by decide +kernel
theorem dX7_passMonth_40 : decode cX7_passMonth 40 = .ok (.isub, 1) := by decide +kernel
theorem dX7_passMonth_41 : decode cX7_passMonth 41 = .ok (.goto 4, 3) := by decide +kernel
theorem dX7_passMonth_44 : decode cX7_passMonth 44 = .ok (.iconst 0, 1) := by decide +kernel
theorem dX7_passMonth_45 : decode cX7_passMonth 45 = .ok (.iastore, 1) := by decide +kernel
theorem dX7_passMonth_46 : decode cX7_passMonth 46 = .ok (.iinc 3 1, 3) := by decide +kernel
theorem dX7_passMonth_49 : decode cX7_passMonth 49 = .ok (.goto (-36), 3) := by decide +kernel
theorem dX7_passMonth_52 : decode cX7_passMonth 52 = .ok (.aload_n 1, 1) := by decide +kernel
theorem dX7_passMonth_53 : decode cX7_passMonth 53 = .ok (.bipush 31, 2) := by decide +kernel
theorem dX7_passMonth_55 : decode cX7_passMonth 55 = .ok (.dup2, 1) := by decide +kernel
theorem dX7_passMonth_56 : decode cX7_passMonth 56 = .ok (.iaload, 1) := by decide +kernel
theorem dX7_passMonth_57 : decode cX7_passMonth 57 = .ok (.iconst 1, 1) := by decide +kernel
theorem dX7_passMonth_58 : decode cX7_passMonth 58 = .ok (.iadd, 1) := by decide +kernel
theorem dX7_passMonth_59 : decode cX7_passMonth 59 = .ok (.iastore, 1) := by decide +kernel
theorem dX7_passMonth_60 : decode cX7_passMonth 60 = .ok (.return_, 1) := by decide +kernel
theorem dX7_pass_0 : decode cX7_pass 0 = .ok (.iload_n 1, 1) := by decide +kernel
theorem dX7_pass_1 : decode cX7_pass 1 = .ok (.iconst 1, 1) := by decide +kernel
theorem dX7_pass_2 : decode cX7_pass 2 = .ok (.bipush 60, 2) := by decide +kernel
theorem dX7_pass_4 : decode cX7_pass 4 = .ok (.invokestatic 63, 3) := by decide +kernel
theorem dX7_pass_7 : decode cX7_pass 7 = .ok (.ifCond .ne 5, 3) := by decide +kernel
theorem dX7_pass_10 : decode cX7_pass 10 = .ok (.iconst (-1), 1) := by decide +kernel
theorem dX7_pass_11 : decode cX7_pass 11 = .ok (.ireturn, 1) := by decide +kernel
theorem dX7_pass_12 : decode cX7_pass 12 = .ok (.aload_n 0, 1) := by decide +kernel
theorem dX7_pass_13 : decode cX7_pass 13 = .ok (.getfield 31, 3) := by decide +kernel
theorem dX7_pass_16 : decode cX7_pass 16 = .ok (.bipush 31, 2) := by decide +kernel
theorem dX7_pass_18 : decode cX7_pass 18 = .ok (.iaload, 1) := by decide +kernel
theorem dX7_pass_19 : decode cX7_pass 19 = .ok (.iload_n 1, 1) := by decide +kernel
theorem dX7_pass_20 : decode cX7_pass 20 = .ok (.iadd, 1) := by decide +kernel
theorem dX7_pass_21 : decode cX7_pass 21 = .ok (.sipush 999, 3) := by decide +kernel
theorem dX7_pass_24 : decode cX7_pass 24 = .ok (.if_icmp .le 6, 3) := by decide +kernel
theorem dX7_pass_27 : decode cX7_pass 27 = .ok (.bipush (-2), 2) := by decide +kernel
theorem dX7_pass_29 : decode cX7_pass 29 = .ok (.ireturn, 1) := by decide +kernel
theorem dX7_pass_30 : decode cX7_pass 30 = .ok (.aload_n 0, 1) := by decide +kernel
theorem dX7_pass_31 : decode cX7_pass 31 = .ok (.invokevirtual 148, 3) := by decide +kernel
theorem dX7_pass_34 : decode cX7_pass 34 = .ok (.iconst 0, 1) := by decide +kernel
theorem dX7_pass_35 : decode cX7_pass 35 = .ok (.istore_n 2, 1) := by decide +kernel
theorem dX7_pass_36 : decode cX7_pass 36 = .ok (.iload_n 2, 1) := by decide +kernel
theorem dX7_pass_37 : decode cX7_pass 37 = .ok (.iload_n 1, 1) := by decide +kernel
theorem dX7_pass_38 : decode cX7_pass 38 = .ok (.if_icmp .ge 17, 3) := by decide +kernel
theorem dX7_pass_41 : decode cX7_pass 41 = .ok (.aload_n 0, 1) := by decide +kernel
theorem dX7_pass_42 : decode cX7_pass 42 = .ok (.aload_n 0, 1) := by decide +kernel
theorem dX7_pass_43 : decode cX7_pass 43 = .ok (.getfield 31, 3) := by decide +kernel
theorem dX7_pass_46 : decode cX7_pass 46 = .ok (.invokevirtual 176, 3) := by decide +kernel
theorem dX7_pass_49 : decode cX7_pass 49 = .ok (.iinc 2 1, 3) := by decide +kernel
theorem dX7_pass_52 : decode cX7_pass 52 = .ok (.goto (-16), 3) := by decide +kernel
theorem dX7_pass_55 : decode cX7_pass 55 = .ok (.aload_n 0, 1) := by decide +kernel
theorem dX7_pass_56 : decode cX7_pass 56 = .ok (.getfield 31, 3) := by decide +kernel
theorem dX7_pass_59 : decode cX7_pass 59 = .ok (.bipush 31, 2) := by decide +kernel
theorem dX7_pass_61 : decode cX7_pass 61 = .ok (.iaload, 1) := by decide +kernel
theorem dX7_pass_62 : decode cX7_pass 62 = .ok (.ireturn, 1) := by decide +kernel
theorem dX7_undo_0 : decode cX7_undo 0 = .ok (.aload_n 0, 1) := by decide +kernel
theorem dX7_undo_1 : decode cX7_undo 1 = .ok (.getfield 117, 3) := by decide +kernel
theorem dX7_undo_4 : decode cX7_undo 4 = .ok (.ifCond .ne 6, 3) := by decide +kernel
theorem dX7_undo_7 : decode cX7_undo 7 = .ok (.bipush (-2), 2) := by decide +kernel
theorem dX7_undo_9 : decode cX7_undo 9 = .ok (.ireturn, 1) := by decide +kernel
theorem dX7_undo_10 : decode cX7_undo 10 = .ok (.aload_n 0, 1) := by decide +kernel
theorem dX7_undo_11 : decode cX7_undo 11 = .ok (.dup, 1) := by decide +kernel
theorem dX7_undo_12 : decode cX7_undo 12 = .ok (.getfield 117, 3) := by decide +kernel
theorem dX7_undo_15 : decode cX7_undo 15 = .ok (.iconst 1, 1) := by decide +kernel
theorem dX7_undo_16 : decode cX7_undo 16 = .ok (.isub, 1) := by decide +kernel
theorem dX7_undo_17 : decode cX7_undo 17 = .ok (.putfield 117, 3) := by decide +kernel
theorem dX7_undo_20 : decode cX7_undo 20 = .ok (.aload_n 0, 1) := by decide +kernel
theorem dX7_undo_21 : decode cX7_undo 21 = .ok (.getfield 37, 3) := by decide +kernel
theorem dX7_undo_24 : decode cX7_undo 24 = .ok (.bipush 32, 2) := by decide +kernel
theorem dX7_undo_26 : decode cX7_undo 26 = .ok (.aload_n 0, 1) := by decide +kernel
theorem dX7_undo_27 : decode cX7_undo 27 = .ok (.getfield 117, 3) := by decide +kernel
theorem dX7_undo_30 : decode cX7_undo 30 = .ok (.imul, 1) := by decide +kernel
theorem dX7_undo_31 : decode cX7_undo 31 = .ok (.aload_n 0, 1) := by decide +kernel
theorem dX7_undo_32 : decode cX7_undo 32 = .ok (.getfield 31, 3) := by decide +kernel
theorem dX7_undo_35 : decode cX7_undo 35 = .ok (.iconst 0, 1) := by decide +kernel
theorem dX7_undo_36 : decode cX7_undo 36 = .ok (.bipush 32, 2) := by decide +kernel
theorem dX7_undo_38 : decode cX7_undo 38 = .ok (.invokestatic 110, 3) := by decide +kernel
theorem dX7_undo_41 : decode cX7_undo 41 = .ok (.aload_n 0, 1) := by decide +kernel
theorem dX7_undo_42 : decode cX7_undo 42 = .ok (.getfield 117, 3) := by decide +kernel
theorem dX7_undo_45 : decode cX7_undo 45 = .ok (.ireturn, 1) := by decide +kernel
theorem dX7_seamAt_0 : decode cX7_seamAt 0 = .ok (.aload_n 0, 1) := by decide +kernel
theorem dX7_seamAt_1 : decode cX7_seamAt 1 = .ok (.getfield 22, 3) := by decide +kernel
theorem dX7_seamAt_4 : decode cX7_seamAt 4 = .ok (.iconst 3, 1) := by decide +kernel
theorem dX7_seamAt_5 : decode cX7_seamAt 5 = .ok (.iload_n 1, 1) := by decide +kernel
theorem dX7_seamAt_6 : decode cX7_seamAt 6 = .ok (.imul, 1) := by decide +kernel
theorem dX7_seamAt_7 : decode cX7_seamAt 7 = .ok (.iconst 1, 1) := by decide +kernel
theorem dX7_seamAt_8 : decode cX7_seamAt 8 = .ok (.iadd, 1) := by decide +kernel
theorem dX7_seamAt_9 : decode cX7_seamAt 9 = .ok (.iaload, 1) := by decide +kernel
theorem dX7_seamAt_10 : decode cX7_seamAt 10 = .ok (.aload_n 0, 1) := by decide +kernel
theorem dX7_seamAt_11 : decode cX7_seamAt 11 = .ok (.getfield 22, 3) := by decide +kernel
theorem dX7_seamAt_14 : decode cX7_seamAt 14 = .ok (.iconst 3, 1) := by decide +kernel
theorem dX7_seamAt_15 : decode cX7_seamAt 15 = .ok (.iload_n 1, 1) := by decide +kernel
theorem dX7_seamAt_16 : decode cX7_seamAt 16 = .ok (.imul, 1) := by decide +kernel
theorem dX7_seamAt_17 : decode cX7_seamAt 17 = .ok (.iconst 2, 1) := by decide +kernel
theorem dX7_seamAt_18 : decode cX7_seamAt 18 = .ok (.iadd, 1) := by decide +kernel
theorem dX7_seamAt_19 : decode cX7_seamAt 19 = .ok (.iaload, 1) := by decide +kernel
theorem dX7_seamAt_20 : decode cX7_seamAt 20 = .ok (.iadd, 1) := by decide +kernel
theorem dX7_seamAt_21 : decode cX7_seamAt 21 = .ok (.ireturn, 1) := by decide +kernel
theorem dX7_covers_0 : decode cX7_covers 0 = .ok (.iload_n 2, 1) := by decide +kernel
theorem dX7_covers_1 : decode cX7_covers 1 = .ok (.istore_n 3, 1) := by decide +kernel
theorem dX7_covers_2 : decode cX7_covers 2 = .ok (.iconst 0, 1) := by decide +kernel
theorem dX7_covers_3 : decode cX7_covers 3 = .ok (.istore 4, 2) := by decide +kernel
theorem dX7_covers_5 : decode cX7_covers 5 = .ok (.iconst 0, 1) := by decide +kernel
theorem dX7_covers_6 : decode cX7_covers 6 = .ok (.istore 5, 2) := by decide +kernel
theorem dX7_covers_8 : decode cX7_covers 8 = .ok (.iconst 0, 1) := by decide +kernel
theorem dX7_covers_9 : decode cX7_covers 9 = .ok (.istore 6, 2) := by decide +kernel
theorem dX7_covers_11 : decode cX7_covers 11 = .ok (.iload 6, 2) := by decide +kernel
theorem dX7_covers_13 : decode cX7_covers 13 = .ok (.iload_n 1, 1) := by decide +kernel
theorem dX7_covers_14 : decode cX7_covers 14 = .ok (.if_icmp .ge 74, 3) := by decide +kernel
theorem dX7_covers_17 : decode cX7_covers 17 = .ok (.iload_n 3, 1) := by decide +kernel
theorem dX7_covers_18 : decode cX7_covers 18 = .ok (.aload_n 0, 1) := by decide +kernel
theorem dX7_covers_19 : decode cX7_covers 19 = .ok (.getfield 46, 3) := by decide +kernel
theorem dX7_covers_22 : decode cX7_covers 22 = .ok (.iload 6, 2) := by decide +kernel
theorem dX7_covers_24 : decode cX7_covers 24 = .ok (.iaload, 1) := by decide +kernel
theorem dX7_covers_25 : decode cX7_covers 25 = .ok (.iadd, 1) := by decide +kernel
theorem dX7_covers_26 : decode cX7_covers 26 = .ok (.aload_n 0, 1) := by decide +kernel
theorem dX7_covers_27 : decode cX7_covers 27 = .ok (.getfield 56, 3) := by decide +kernel
theorem dX7_covers_30 : decode cX7_covers 30 = .ok (.if_icmp .le 5, 3) := by decide +kernel
theorem dX7_covers_33 : decode cX7_covers 33 = .ok (.iconst 0, 1) := by decide +kernel
theorem dX7_covers_34 : decode cX7_covers 34 = .ok (.ireturn, 1) := by decide +kernel
theorem dX7_covers_35 : decode cX7_covers 35 = .ok (.iload 5, 2) := by decide +kernel
theorem dX7_covers_37 : decode cX7_covers 37 = .ok (.iload_n 3, 1) := by decide +kernel
theorem dX7_covers_38 : decode cX7_covers 38 = .ok (.ifCond .le 13, 3) := by decide +kernel
theorem dX7_covers_41 : decode cX7_covers 41 = .ok (.aload_n 0, 1) := by decide +kernel
theorem dX7_covers_42 : decode cX7_covers 42 = .ok (.iload_n 3, 1) := by decide +kernel
theorem dX7_covers_43 : decode cX7_covers 43 = .ok (.iconst 1, 1) := by decide +kernel
theorem dX7_covers_44 : decode cX7_covers 44 = .ok (.isub, 1) := by decide +kernel
theorem dX7_covers_45 : decode cX7_covers 45 = .ok (.invokevirtual 180, 3) := by decide +kernel
theorem dX7_covers_48 : decode cX7_covers 48 = .ok (.goto 4, 3) := by decide +kernel
theorem dX7_covers_51 : decode cX7_covers 51 = .ok (.iconst 0, 1) := by decide +kernel
theorem dX7_covers_52 : decode cX7_covers 52 = .ok (.iadd, 1) := by decide +kernel
theorem dX7_covers_53 : decode cX7_covers 53 = .ok (.istore 5, 2) := by decide +kernel
theorem dX7_covers_55 : decode cX7_covers 55 = .ok (.iload 4, 2) := by decide +kernel
theorem dX7_covers_57 : decode cX7_covers 57 = .ok (.aload_n 0, 1) := by decide +kernel
theorem dX7_covers_58 : decode cX7_covers 58 = .ok (.iload_n 3, 1) := by decide +kernel
theorem dX7_covers_59 : decode cX7_covers 59 = .ok (.aload_n 0, 1) := by decide +kernel
theorem dX7_covers_60 : decode cX7_covers 60 = .ok (.getfield 46, 3) := by decide +kernel
theorem dX7_covers_63 : decode cX7_covers 63 = .ok (.iload 6, 2) := by decide +kernel
theorem dX7_covers_65 : decode cX7_covers 65 = .ok (.iaload, 1) := by decide +kernel
theorem dX7_covers_66 : decode cX7_covers 66 = .ok (.invokevirtual 141, 3) := by decide +kernel
theorem dX7_covers_69 : decode cX7_covers 69 = .ok (.iadd, 1) := by decide +kernel
theorem dX7_covers_70 : decode cX7_covers 70 = .ok (.istore 4, 2) := by decide +kernel
theorem dX7_covers_72 : decode cX7_covers 72 = .ok (.iload_n 3, 1) := by decide +kernel
theorem dX7_covers_73 : decode cX7_covers 73 = .ok (.aload_n 0, 1) := by decide +kernel
theorem dX7_covers_74 : decode cX7_covers 74 = .ok (.getfield 46, 3) := by decide +kernel
theorem dX7_covers_77 : decode cX7_covers 77 = .ok (.iload 6, 2) := by decide +kernel
theorem dX7_covers_79 : decode cX7_covers 79 = .ok (.iaload, 1) := by decide +kernel
theorem dX7_covers_80 : decode cX7_covers 80 = .ok (.iadd, 1) := by decide +kernel
theorem dX7_covers_81 : decode cX7_covers 81 = .ok (.istore_n 3, 1) := by decide +kernel
theorem dX7_covers_82 : decode cX7_covers 82 = .ok (.iinc 6 1, 3) := by decide +kernel
theorem dX7_covers_85 : decode cX7_covers 85 = .ok (.goto (-74), 3) := by decide +kernel
theorem dX7_covers_88 : decode cX7_covers 88 = .ok (.iload_n 3, 1) := by decide +kernel
theorem dX7_covers_89 : decode cX7_covers 89 = .ok (.aload_n 0, 1) := by decide +kernel
theorem dX7_covers_90 : decode cX7_covers 90 = .ok (.getfield 56, 3) := by decide +kernel
theorem dX7_covers_93 : decode cX7_covers 93 = .ok (.if_icmp .ne 16, 3) := by decide +kernel
theorem dX7_covers_96 : decode cX7_covers 96 = .ok (.iload 4, 2) := by decide +kernel
theorem dX7_covers_98 : decode cX7_covers 98 = .ok (.aload_n 0, 1) := by decide +kernel
theorem dX7_covers_99 : decode cX7_covers 99 = .ok (.aload_n 0, 1) := by decide +kernel
theorem dX7_covers_100 : decode cX7_covers 100 = .ok (.getfield 31, 3) := by decide +kernel
theorem dX7_covers_103 : decode cX7_covers 103 = .ok (.invokevirtual 145, 3) := by decide +kernel
theorem dX7_covers_106 : decode cX7_covers 106 = .ok (.if_icmp .le 5, 3) := by decide +kernel
theorem dX7_covers_109 : decode cX7_covers 109 = .ok (.iconst 0, 1) := by decide +kernel
theorem dX7_covers_110 : decode cX7_covers 110 = .ok (.ireturn, 1) := by decide +kernel
theorem dX7_covers_111 : decode cX7_covers 111 = .ok (.aload_n 0, 1) := by decide +kernel
theorem dX7_covers_112 : decode cX7_covers 112 = .ok (.getfield 183, 3) := by decide +kernel
theorem dX7_covers_115 : decode cX7_covers 115 = .ok (.ifCond .lt 47, 3) := by decide +kernel
theorem dX7_covers_118 : decode cX7_covers 118 = .ok (.iload 4, 2) := by decide +kernel
theorem dX7_covers_120 : decode cX7_covers 120 = .ok (.aload_n 0, 1) := by decide +kernel
theorem dX7_covers_121 : decode cX7_covers 121 = .ok (.getfield 183, 3) := by decide +kernel
theorem dX7_covers_124 : decode cX7_covers 124 = .ok (.if_icmp .lt 38, 3) := by decide +kernel
theorem dX7_covers_127 : decode cX7_covers 127 = .ok (.iload 4, 2) := by decide +kernel
theorem dX7_covers_129 : decode cX7_covers 129 = .ok (.aload_n 0, 1) := by decide +kernel
theorem dX7_covers_130 : decode cX7_covers 130 = .ok (.getfield 183, 3) := by decide +kernel
theorem dX7_covers_133 : decode cX7_covers 133 = .ok (.if_icmp .ne 33, 3) := by decide +kernel
theorem dX7_covers_136 : decode cX7_covers 136 = .ok (.iload 5, 2) := by decide +kernel
theorem dX7_covers_138 : decode cX7_covers 138 = .ok (.aload_n 0, 1) := by decide +kernel
theorem dX7_covers_139 : decode cX7_covers 139 = .ok (.getfield 186, 3) := by decide +kernel
theorem dX7_covers_142 : decode cX7_covers 142 = .ok (.if_icmp .lt 20, 3) := by decide +kernel
theorem dX7_covers_145 : decode cX7_covers 145 = .ok (.iload 5, 2) := by decide +kernel
theorem dX7_covers_147 : decode cX7_covers 147 = .ok (.aload_n 0, 1) := by decide +kernel
theorem dX7_covers_148 : decode cX7_covers 148 = .ok (.getfield 186, 3) := by decide +kernel
theorem dX7_covers_151 : decode cX7_covers 151 = .ok (.if_icmp .ne 15, 3) := by decide +kernel
theorem dX7_covers_154 : decode cX7_covers 154 = .ok (.aload_n 0, 1) := by decide +kernel
theorem dX7_covers_155 : decode cX7_covers 155 = .ok (.iload_n 1, 1) := by decide +kernel
theorem dX7_covers_156 : decode cX7_covers 156 = .ok (.invokevirtual 189, 3) := by decide +kernel
theorem dX7_covers_159 : decode cX7_covers 159 = .ok (.ifCond .eq 7, 3) := by decide +kernel
theorem dX7_covers_162 : decode cX7_covers 162 = .ok (.iconst 1, 1) := by decide +kernel
theorem dX7_covers_163 : decode cX7_covers 163 = .ok (.goto 4, 3) := by decide +kernel
theorem dX7_covers_166 : decode cX7_covers 166 = .ok (.iconst 0, 1) := by decide +kernel
theorem dX7_covers_167 : decode cX7_covers 167 = .ok (.istore 6, 2) := by decide +kernel
theorem dX7_covers_169 : decode cX7_covers 169 = .ok (.iload 6, 2) := by decide +kernel
theorem dX7_covers_171 : decode cX7_covers 171 = .ok (.ifCond .eq 34, 3) := by decide +kernel
theorem dX7_covers_174 : decode cX7_covers 174 = .ok (.aload_n 0, 1) := by decide +kernel
theorem dX7_covers_175 : decode cX7_covers 175 = .ok (.iload 4, 2) := by decide +kernel
theorem dX7_covers_177 : decode cX7_covers 177 = .ok (.putfield 183, 3) := by decide +kernel
theorem dX7_covers_180 : decode cX7_covers 180 = .ok (.aload_n 0, 1) := by decide +kernel
theorem dX7_covers_181 : decode cX7_covers 181 = .ok (.iload 5, 2) := by decide +kernel
theorem dX7_covers_183 : decode cX7_covers 183 = .ok (.putfield 186, 3) := by decide +kernel
theorem dX7_covers_186 : decode cX7_covers 186 = .ok (.aload_n 0, 1) := by decide +kernel
theorem dX7_covers_187 : decode cX7_covers 187 = .ok (.iload_n 1, 1) := by decide +kernel
theorem dX7_covers_188 : decode cX7_covers 188 = .ok (.putfield 193, 3) := by decide +kernel
theorem dX7_covers_191 : decode cX7_covers 191 = .ok (.aload_n 0, 1) := by decide +kernel
theorem dX7_covers_192 : decode cX7_covers 192 = .ok (.getfield 46, 3) := by decide +kernel
theorem dX7_covers_195 : decode cX7_covers 195 = .ok (.iconst 0, 1) := by decide +kernel
theorem dX7_covers_196 : decode cX7_covers 196 = .ok (.aload_n 0, 1) := by decide +kernel
theorem dX7_covers_197 : decode cX7_covers 197 = .ok (.getfield 49, 3) := by decide +kernel
theorem dX7_covers_200 : decode cX7_covers 200 = .ok (.iconst 0, 1) := by decide +kernel
theorem dX7_covers_201 : decode cX7_covers 201 = .ok (.iload_n 1, 1) := by decide +kernel
theorem dX7_covers_202 : decode cX7_covers 202 = .ok (.invokestatic 110, 3) := by decide +kernel
theorem dX7_covers_205 : decode cX7_covers 205 = .ok (.iload 6, 2) := by decide +kernel
theorem dX7_covers_207 : decode cX7_covers 207 = .ok (.ireturn, 1) := by decide +kernel
theorem dX7_isBefore_0 : decode cX7_isBefore 0 = .ok (.iconst 0, 1) := by decide +kernel
theorem dX7_isBefore_1 : decode cX7_isBefore 1 = .ok (.istore_n 2, 1) := by decide +kernel
theorem dX7_isBefore_2 : decode cX7_isBefore 2 = .ok (.iload_n 2, 1) := by decide +kernel
theorem dX7_isBefore_3 : decode cX7_isBefore 3 = .ok (.iload_n 1, 1) := by decide +kernel
theorem dX7_isBefore_4 : decode cX7_isBefore 4 = .ok (.if_icmp .ge 53, 3) := by decide +kernel
theorem dX7_isBefore_7 : decode cX7_isBefore 7 = .ok (.iload_n 2, 1) := by decide +kernel
theorem dX7_isBefore_8 : decode cX7_isBefore 8 = .ok (.aload_n 0, 1) := by decide +kernel
theorem dX7_isBefore_9 : decode cX7_isBefore 9 = .ok (.getfield 193, 3) := by decide +kernel
theorem dX7_isBefore_12 : decode cX7_isBefore 12 = .ok (.if_icmp .ge 45, 3) := by decide +kernel
theorem dX7_isBefore_15 : decode cX7_isBefore 15 = .ok (.aload_n 0, 1) := by decide +kernel
theorem dX7_isBefore_16 : decode cX7_isBefore 16 = .ok (.getfield 46, 3) := by decide +kernel
theorem dX7_isBefore_19 : decode cX7_isBefore 19 = .ok (.iload_n 2, 1) := by decide +kernel
theorem dX7_isBefore_20 : decode cX7_isBefore 20 = .ok (.iaload, 1) := by decide +kernel
theorem dX7_isBefore_21 : decode cX7_isBefore 21 = .ok (.aload_n 0, 1) := by decide +kernel
theorem dX7_isBefore_22 : decode cX7_isBefore 22 = .ok (.getfield 49, 3) := by decide +kernel
theorem dX7_isBefore_25 : decode cX7_isBefore 25 = .ok (.iload_n 2, 1) := by decide +kernel
theorem dX7_isBefore_26 : decode cX7_isBefore 26 = .ok (.iaload, 1) := by decide +kernel
theorem dX7_isBefore_27 : decode cX7_isBefore 27 = .ok (.if_icmp .eq 24, 3) := by decide +kernel
theorem dX7_isBefore_30 : decode cX7_isBefore 30 = .ok (.aload_n 0, 1) := by decide +kernel
theorem dX7_isBefore_31 : decode cX7_isBefore 31 = .ok (.getfield 46, 3) := by decide +kernel
theorem dX7_isBefore_34 : decode cX7_isBefore 34 = .ok (.iload_n 2, 1) := by decide +kernel
theorem dX7_isBefore_35 : decode cX7_isBefore 35 = .ok (.iaload, 1) := by decide +kernel
theorem dX7_isBefore_36 : decode cX7_isBefore 36 = .ok (.aload_n 0, 1) := by decide +kernel
theorem dX7_isBefore_37 : decode cX7_isBefore 37 = .ok (.getfield 49, 3) := by decide +kernel
theorem dX7_isBefore_40 : decode cX7_isBefore 40 = .ok (.iload_n 2, 1) := by decide +kernel
theorem dX7_isBefore_41 : decode cX7_isBefore 41 = .ok (.iaload, 1) := by decide +kernel
theorem dX7_isBefore_42 : decode cX7_isBefore 42 = .ok (.if_icmp .ge 7, 3) := by decide +kernel
theorem dX7_isBefore_45 : decode cX7_isBefore 45 = .ok (.iconst 1, 1) := by decide +kernel
theorem dX7_isBefore_46 : decode cX7_isBefore 46 = .ok (.goto 4, 3) := by decide +kernel
theorem dX7_isBefore_49 : decode cX7_isBefore 49 = .ok (.iconst 0, 1) := by decide +kernel
theorem dX7_isBefore_50 : decode cX7_isBefore 50 = .ok (.ireturn, 1) := by decide +kernel
theorem dX7_isBefore_51 : decode cX7_isBefore 51 = .ok (.iinc 2 1, 3) := by decide +kernel
theorem dX7_isBefore_54 : decode cX7_isBefore 54 = .ok (.goto (-52), 3) := by decide +kernel
theorem dX7_isBefore_57 : decode cX7_isBefore 57 = .ok (.iload_n 1, 1) := by decide +kernel
theorem dX7_isBefore_58 : decode cX7_isBefore 58 = .ok (.aload_n 0, 1) := by decide +kernel
theorem dX7_isBefore_59 : decode cX7_isBefore 59 = .ok (.getfield 193, 3) := by decide +kernel
theorem dX7_isBefore_62 : decode cX7_isBefore 62 = .ok (.if_icmp .ge 7, 3) := by decide +kernel
theorem dX7_isBefore_65 : decode cX7_isBefore 65 = .ok (.iconst 1, 1) := by decide +kernel
theorem dX7_isBefore_66 : decode cX7_isBefore 66 = .ok (.goto 4, 3) := by decide +kernel
theorem dX7_isBefore_69 : decode cX7_isBefore 69 = .ok (.iconst 0, 1) := by decide +kernel
theorem dX7_isBefore_70 : decode cX7_isBefore 70 = .ok (.ireturn, 1) := by decide +kernel
theorem dX7_layPlan_0 : decode cX7_layPlan 0 = .ok (.aload_n 0, 1) := by decide +kernel
theorem dX7_layPlan_1 : decode cX7_layPlan 1 = .ok (.iconst (-1), 1) := by decide +kernel
theorem dX7_layPlan_2 : decode cX7_layPlan 2 = .ok (.putfield 183, 3) := by decide +kernel
theorem dX7_layPlan_5 : decode cX7_layPlan 5 = .ok (.aload_n 0, 1) := by decide +kernel
theorem dX7_layPlan_6 : decode cX7_layPlan 6 = .ok (.iconst 0, 1) := by decide +kernel
theorem dX7_layPlan_7 : decode cX7_layPlan 7 = .ok (.putfield 186, 3) := by decide +kernel
theorem dX7_layPlan_10 : decode cX7_layPlan 10 = .ok (.aload_n 0, 1) := by decide +kernel
theorem dX7_layPlan_11 : decode cX7_layPlan 11 = .ok (.iconst 0, 1) := by decide +kernel
theorem dX7_layPlan_12 : decode cX7_layPlan 12 = .ok (.putfield 193, 3) := by decide +kernel
theorem dX7_layPlan_15 : decode cX7_layPlan 15 = .ok (.aload_n 0, 1) := by decide +kernel
theorem dX7_layPlan_16 : decode cX7_layPlan 16 = .ok (.getfield 31, 3) := by decide +kernel
theorem dX7_layPlan_19 : decode cX7_layPlan 19 = .ok (.invokestatic 137, 3) := by decide +kernel
theorem dX7_layPlan_22 : decode cX7_layPlan 22 = .ok (.istore_n 1, 1) := by decide +kernel
theorem dX7_layPlan_23 : decode cX7_layPlan 23 = .ok (.aload_n 0, 1) := by decide +kernel
theorem dX7_layPlan_24 : decode cX7_layPlan 24 = .ok (.getfield 56, 3) := by decide +kernel
theorem dX7_layPlan_27 : decode cX7_layPlan 27 = .ok (.iload_n 1, 1) := by decide +kernel
theorem dX7_layPlan_28 : decode cX7_layPlan 28 = .ok (.isub, 1) := by decide +kernel
theorem dX7_layPlan_29 : decode cX7_layPlan 29 = .ok (.iconst 1, 1) := by decide +kernel
theorem dX7_layPlan_30 : decode cX7_layPlan 30 = .ok (.isub, 1) := by decide +kernel
theorem dX7_layPlan_31 : decode cX7_layPlan 31 = .ok (.istore_n 2, 1) := by decide +kernel
theorem dX7_layPlan_32 : decode cX7_layPlan 32 = .ok (.iload_n 2, 1) := by decide +kernel
theorem dX7_layPlan_33 : decode cX7_layPlan 33 = .ok (.ifCond .ge 9, 3) := by decide +kernel
theorem dX7_layPlan_36 : decode cX7_layPlan 36 = .ok (.aload_n 0, 1) := by decide +kernel
theorem dX7_layPlan_37 : decode cX7_layPlan 37 = .ok (.iconst 0, 1) := by decide +kernel
theorem dX7_layPlan_38 : decode cX7_layPlan 38 = .ok (.putfield 183, 3) := by decide +kernel
theorem dX7_layPlan_41 : decode cX7_layPlan 41 = .ok (.return_, 1) := by decide +kernel
theorem dX7_layPlan_42 : decode cX7_layPlan 42 = .ok (.iconst 0, 1) := by decide +kernel
theorem dX7_layPlan_43 : decode cX7_layPlan 43 = .ok (.istore_n 3, 1) := by decide +kernel
theorem dX7_layPlan_44 : decode cX7_layPlan 44 = .ok (.iload_n 3, 1) := by decide +kernel
theorem dX7_layPlan_45 : decode cX7_layPlan 45 = .ok (.iconst 1, 1) := by decide +kernel
theorem dX7_layPlan_46 : decode cX7_layPlan 46 = .ok (.iload_n 2, 1) := by decide +kernel
theorem dX7_layPlan_47 : decode cX7_layPlan 47 = .ok (.ishl, 1) := by decide +kernel
theorem dX7_layPlan_48 : decode cX7_layPlan 48 = .ok (.if_icmp .ge 102, 3) := by decide +kernel
theorem dX7_layPlan_51 : decode cX7_layPlan 51 = .ok (.iconst 0, 1) := by decide +kernel
theorem dX7_layPlan_52 : decode cX7_layPlan 52 = .ok (.istore 4, 2) := by decide +kernel
theorem dX7_layPlan_54 : decode cX7_layPlan 54 = .ok (.iconst 0, 1) := by decide +kernel
theorem dX7_layPlan_55 : decode cX7_layPlan 55 = .ok (.istore 5, 2) := by decide +kernel
theorem dX7_layPlan_57 : decode cX7_layPlan 57 = .ok (.iconst 1, 1) := by decide +kernel
theorem dX7_layPlan_58 : decode cX7_layPlan 58 = .ok (.istore 6, 2) := by decide +kernel
theorem dX7_layPlan_60 : decode cX7_layPlan 60 = .ok (.iconst 0, 1) := by decide +kernel
theorem dX7_layPlan_61 : decode cX7_layPlan 61 = .ok (.istore 7, 2) := by decide +kernel
theorem dX7_layPlan_63 : decode cX7_layPlan 63 = .ok (.iload 7, 2) := by decide +kernel
theorem dX7_layPlan_65 : decode cX7_layPlan 65 = .ok (.iload_n 2, 1) := by decide +kernel
theorem dX7_layPlan_66 : decode cX7_layPlan 66 = .ok (.if_icmp .gt 65, 3) := by decide +kernel
theorem dX7_layPlan_69 : decode cX7_layPlan 69 = .ok (.iinc 5 1, 3) := by decide +kernel
theorem dX7_layPlan_72 : decode cX7_layPlan 72 = .ok (.iload 6, 2) := by decide +kernel
theorem dX7_layPlan_74 : decode cX7_layPlan 74 = .ok (.ifCond .eq 18, 3) := by decide +kernel
theorem dX7_layPlan_77 : decode cX7_layPlan 77 = .ok (.iload 5, 2) := by decide +kernel
theorem dX7_layPlan_79 : decode cX7_layPlan 79 = .ok (.aload_n 0, 1) := by decide +kernel
theorem dX7_layPlan_80 : decode cX7_layPlan 80 = .ok (.getfield 28, 3) := by decide +kernel
theorem dX7_layPlan_83 : decode cX7_layPlan 83 = .ok (.iconst 0, 1) := by decide +kernel
theorem dX7_layPlan_84 : decode cX7_layPlan 84 = .ok (.iaload, 1) := by decide +kernel
theorem dX7_layPlan_85 : decode cX7_layPlan 85 = .ok (.if_icmp .gt 7, 3) := by decide +kernel
theorem dX7_layPlan_88 : decode cX7_layPlan 88 = .ok (.iconst 1, 1) := by decide +kernel
theorem dX7_layPlan_89 : decode cX7_layPlan 89 = .ok (.goto 4, 3) := by decide +kernel
theorem dX7_layPlan_92 : decode cX7_layPlan 92 = .ok (.iconst 0, 1) := by decide +kernel
theorem dX7_layPlan_93 : decode cX7_layPlan 93 = .ok (.istore 6, 2) := by decide +kernel
theorem dX7_layPlan_95 : decode cX7_layPlan 95 = .ok (.iload 7, 2) := by decide +kernel
theorem dX7_layPlan_97 : decode cX7_layPlan 97 = .ok (.iload_n 2, 1) := by decide +kernel
theorem dX7_layPlan_98 : decode cX7_layPlan 98 = .ok (.if_icmp .eq 12, 3) := by decide +kernel
theorem dX7_layPlan_101 : decode cX7_layPlan 101 = .ok (.iload_n 3, 1) := by decide +kernel
theorem dX7_layPlan_102 : decode cX7_layPlan 102 = .ok (.iload 7, 2) := by decide +kernel
theorem dX7_layPlan_104 : decode cX7_layPlan 104 = .ok (.invokestatic 126, 3) := by decide +kernel
theorem dX7_layPlan_107 : decode cX7_layPlan 107 = .ok (.ifCond .eq 18, 3) := by decide +kernel
theorem dX7_layPlan_110 : decode cX7_layPlan 110 = .ok (.aload_n 0, 1) := by decide +kernel
theorem dX7_layPlan_111 : decode cX7_layPlan 111 = .ok (.getfield 46, 3) := by decide +kernel
theorem dX7_layPlan_114 : decode cX7_layPlan 114 = .ok (.iload 4, 2) := by decide +kernel
theorem dX7_layPlan_116 : decode cX7_layPlan 116 = .ok (.iload 5, 2) := by decide +kernel
theorem dX7_layPlan_118 : decode cX7_layPlan 118 = .ok (.iastore, 1) := by decide +kernel
theorem dX7_layPlan_119 : decode cX7_layPlan 119 = .ok (.iinc 4 1, 3) := by decide +kernel
theorem dX7_layPlan_122 : decode cX7_layPlan 122 = .ok (.iconst 0, 1) := by decide +kernel
theorem dX7_layPlan_123 : decode cX7_layPlan 123 = .ok (.istore 5, 2) := by decide +kernel
theorem dX7_layPlan_125 : decode cX7_layPlan 125 = .ok (.iinc 7 1, 3) := by decide +kernel
theorem dX7_layPlan_128 : decode cX7_layPlan 128 = .ok (.goto (-65), 3) := by decide +kernel
theorem dX7_layPlan_131 : decode cX7_layPlan 131 = .ok (.iload 6, 2) := by decide +kernel
theorem dX7_layPlan_133 : decode cX7_layPlan 133 = .ok (.ifCond .eq 11, 3) := by decide +kernel
theorem dX7_layPlan_136 : decode cX7_layPlan 136 = .ok (.aload_n 0, 1) := by decide +kernel
theorem dX7_layPlan_137 : decode cX7_layPlan 137 = .ok (.iload 4, 2) := by decide +kernel
theorem dX7_layPlan_139 : decode cX7_layPlan 139 = .ok (.iload_n 1, 1) := by decide +kernel
theorem dX7_layPlan_140 : decode cX7_layPlan 140 = .ok (.invokevirtual 196, 3) := by decide +kernel
theorem dX7_layPlan_143 : decode cX7_layPlan 143 = .ok (.pop, 1) := by decide +kernel
theorem dX7_layPlan_144 : decode cX7_layPlan 144 = .ok (.iinc 3 1, 3) := by decide +kernel
theorem dX7_layPlan_147 : decode cX7_layPlan 147 = .ok (.goto (-103), 3) := by decide +kernel
theorem dX7_layPlan_150 : decode cX7_layPlan 150 = .ok (.return_, 1) := by decide +kernel
theorem dX7_plan_0 : decode cX7_plan 0 = .ok (.iload_n 1, 1) := by decide +kernel
theorem dX7_plan_1 : decode cX7_plan 1 = .ok (.bipush (-2), 2) := by decide +kernel
theorem dX7_plan_3 : decode cX7_plan 3 = .ok (.if_icmp .ge 5, 3) := by decide +kernel
theorem dX7_plan_6 : decode cX7_plan 6 = .ok (.iconst (-1), 1) := by decide +kernel
theorem dX7_plan_7 : decode cX7_plan 7 = .ok (.ireturn, 1) := by decide +kernel
theorem dX7_plan_8 : decode cX7_plan 8 = .ok (.aload_n 0, 1) := by decide +kernel
theorem dX7_plan_9 : decode cX7_plan 9 = .ok (.invokevirtual 199, 3) := by decide +kernel
theorem dX7_plan_12 : decode cX7_plan 12 = .ok (.aload_n 0, 1) := by decide +kernel
theorem dX7_plan_13 : decode cX7_plan 13 = .ok (.getfield 183, 3) := by decide +kernel
theorem dX7_plan_16 : decode cX7_plan 16 = .ok (.ifCond .ge 6, 3) := by decide +kernel
theorem dX7_plan_19 : decode cX7_plan 19 = .ok (.bipush (-4), 2) := by decide +kernel
theorem dX7_plan_21 : decode cX7_plan 21 = .ok (.ireturn, 1) := by decide +kernel
theorem dX7_plan_22 : decode cX7_plan 22 = .ok (.iload_n 1, 1) := by decide +kernel
theorem dX7_plan_23 : decode cX7_plan 23 = .ok (.iconst (-1), 1) := by decide +kernel
theorem dX7_plan_24 : decode cX7_plan 24 = .ok (.if_icmp .ne 10, 3) := by decide +kernel
theorem dX7_plan_27 : decode cX7_plan 27 = .ok (.aload_n 0, 1) := by decide +kernel
theorem dX7_plan_28 : decode cX7_plan 28 = .ok (.getfield 183, 3) := by decide +kernel
theorem dX7_plan_31 : decode cX7_plan 31 = .ok (.goto 35, 3) := by decide +kernel
theorem dX7_plan_34 : decode cX7_plan 34 = .ok (.iload_n 1, 1) := by decide +kernel
theorem dX7_plan_35 : decode cX7_plan 35 = .ok (.bipush (-2), 2) := by decide +kernel
theorem dX7_plan_37 : decode cX7_plan 37 = .ok (.if_icmp .ne 10, 3) := by decide +kernel
theorem dX7_plan_40 : decode cX7_plan 40 = .ok (.aload_n 0, 1) := by decide +kernel
theorem dX7_plan_41 : decode cX7_plan 41 = .ok (.getfield 186, 3) := by decide +kernel
theorem dX7_plan_44 : decode cX7_plan 44 = .ok (.goto 22, 3) := by decide +kernel
theorem dX7_plan_47 : decode cX7_plan 47 = .ok (.iload_n 1, 1) := by decide +kernel
theorem dX7_plan_48 : decode cX7_plan 48 = .ok (.aload_n 0, 1) := by decide +kernel
theorem dX7_plan_49 : decode cX7_plan 49 = .ok (.getfield 193, 3) := by decide +kernel
theorem dX7_plan_52 : decode cX7_plan 52 = .ok (.if_icmp .ge 12, 3) := by decide +kernel
theorem dX7_plan_55 : decode cX7_plan 55 = .ok (.aload_n 0, 1) := by decide +kernel
theorem dX7_plan_56 : decode cX7_plan 56 = .ok (.getfield 49, 3) := by decide +kernel
theorem dX7_plan_59 : decode cX7_plan 59 = .ok (.iload_n 1, 1) := by decide +kernel
theorem dX7_plan_60 : decode cX7_plan 60 = .ok (.iaload, 1) := by decide +kernel
theorem dX7_plan_61 : decode cX7_plan 61 = .ok (.goto 5, 3) := by decide +kernel
theorem dX7_plan_64 : decode cX7_plan 64 = .ok (.bipush (-4), 2) := by decide +kernel
theorem dX7_plan_66 : decode cX7_plan 66 = .ok (.ireturn, 1) := by decide +kernel
theorem dX7_begin_0 : decode cX7_begin 0 = .ok (.aload_n 0, 1) := by decide +kernel
theorem dX7_begin_1 : decode cX7_begin 1 = .ok (.getfield 31, 3) := by decide +kernel
theorem dX7_begin_4 : decode cX7_begin 4 = .ok (.iconst 0, 1) := by decide +kernel
theorem dX7_begin_5 : decode cX7_begin 5 = .ok (.aload_n 0, 1) := by decide +kernel
theorem dX7_begin_6 : decode cX7_begin 6 = .ok (.getfield 34, 3) := by decide +kernel
theorem dX7_begin_9 : decode cX7_begin 9 = .ok (.iconst 0, 1) := by decide +kernel
theorem dX7_begin_10 : decode cX7_begin 10 = .ok (.bipush 32, 2) := by decide +kernel
theorem dX7_begin_12 : decode cX7_begin 12 = .ok (.invokestatic 110, 3) := by decide +kernel
theorem dX7_begin_15 : decode cX7_begin 15 = .ok (.return_, 1) := by decide +kernel
theorem dX7_leastKick_0 : decode cX7_leastKick 0 = .ok (.iconst 0, 1) := by decide +kernel
theorem dX7_leastKick_1 : decode cX7_leastKick 1 = .ok (.istore 4, 2) := by decide +kernel
theorem dX7_leastKick_3 : decode cX7_leastKick 3 = .ok (.iload 4, 2) := by decide +kernel
theorem dX7_leastKick_5 : decode cX7_leastKick 5 = .ok (.bipush 20, 2) := by decide +kernel
theorem dX7_leastKick_7 : decode cX7_leastKick 7 = .ok (.if_icmp .gt 39, 3) := by decide +kernel
theorem dX7_leastKick_10 : decode cX7_leastKick 10 = .ok (.aload_n 0, 1) := by decide +kernel
theorem dX7_leastKick_11 : decode cX7_leastKick 11 = .ok (.aload_n 1, 1) := by decide +kernel
theorem dX7_leastKick_12 : decode cX7_leastKick 12 = .ok (.iload_n 2, 1) := by decide +kernel
theorem dX7_leastKick_13 : decode cX7_leastKick 13 = .ok (.iload 4, 2) := by decide +kernel
theorem dX7_leastKick_15 : decode cX7_leastKick 15 = .ok (.invokevirtual 158, 3) := by decide +kernel
theorem dX7_leastKick_18 : decode cX7_leastKick 18 = .ok (.istore 5, 2) := by decide +kernel
theorem dX7_leastKick_20 : decode cX7_leastKick 20 = .ok (.iload 5, 2) := by decide +kernel
theorem dX7_leastKick_22 : decode cX7_leastKick 22 = .ok (.iload_n 3, 1) := by decide +kernel
theorem dX7_leastKick_23 : decode cX7_leastKick 23 = .ok (.if_icmp .lt 17, 3) := by decide +kernel
theorem dX7_leastKick_26 : decode cX7_leastKick 26 = .ok (.iload 5, 2) := by decide +kernel
theorem dX7_leastKick_28 : decode cX7_leastKick 28 = .ok (.aload_n 0, 1) := by decide +kernel
theorem dX7_leastKick_29 : decode cX7_leastKick 29 = .ok (.getfield 28, 3) := by decide +kernel
theorem dX7_leastKick_32 : decode cX7_leastKick 32 = .ok (.iconst 3, 1) := by decide +kernel
theorem dX7_leastKick_33 : decode cX7_leastKick 33 = .ok (.iaload, 1) := by decide +kernel
theorem dX7_leastKick_34 : decode cX7_leastKick 34 = .ok (.if_icmp .gt 6, 3) := by decide +kernel
theorem dX7_leastKick_37 : decode cX7_leastKick 37 = .ok (.iload 4, 2) := by decide +kernel
theorem dX7_leastKick_39 : decode cX7_leastKick 39 = .ok (.ireturn, 1) := by decide +kernel
theorem dX7_leastKick_40 : decode cX7_leastKick 40 = .ok (.iinc 4 1, 3) := by decide +kernel
theorem dX7_leastKick_43 : decode cX7_leastKick 43 = .ok (.goto (-40), 3) := by decide +kernel
theorem dX7_leastKick_46 : decode cX7_leastKick 46 = .ok (.bipush (-4), 2) := by decide +kernel
theorem dX7_leastKick_48 : decode cX7_leastKick 48 = .ok (.ireturn, 1) := by decide +kernel
theorem dX7_layOrder_0 : decode cX7_layOrder 0 = .ok (.bipush 15, 2) := by decide +kernel
theorem dX7_layOrder_2 : decode cX7_layOrder 2 = .ok (.aload_n 0, 1) := by decide +kernel
theorem dX7_layOrder_3 : decode cX7_layOrder 3 = .ok (.getfield 31, 3) := by decide +kernel
theorem dX7_layOrder_6 : decode cX7_layOrder 6 = .ok (.bipush 29, 2) := by decide +kernel
theorem dX7_layOrder_8 : decode cX7_layOrder 8 = .ok (.iaload, 1) := by decide +kernel
theorem dX7_layOrder_9 : decode cX7_layOrder 9 = .ok (.aload_n 0, 1) := by decide +kernel
theorem dX7_layOrder_10 : decode cX7_layOrder 10 = .ok (.getfield 31, 3) := by decide +kernel
theorem dX7_layOrder_13 : decode cX7_layOrder 13 = .ok (.bipush 30, 2) := by decide +kernel
theorem dX7_layOrder_15 : decode cX7_layOrder 15 = .ok (.iaload, 1) := by decide +kernel
theorem dX7_layOrder_16 : decode cX7_layOrder 16 = .ok (.ior, 1) := by decide +kernel
theorem dX7_layOrder_17 : decode cX7_layOrder 17 = .ok (.iconst (-1), 1) := by decide +kernel
theorem dX7_layOrder_18 : decode cX7_layOrder 18 = .ok (.ixor, 1) := by decide +kernel
theorem dX7_layOrder_19 : decode cX7_layOrder 19 = .ok (.iand, 1) := by decide +kernel
theorem dX7_layOrder_20 : decode cX7_layOrder 20 = .ok (.istore_n 1, 1) := by decide +kernel
theorem dX7_layOrder_21 : decode cX7_layOrder 21 = .ok (.iload_n 1, 1) := by decide +kernel
theorem dX7_layOrder_22 : decode cX7_layOrder 22 = .ok (.invokestatic 151, 3) := by decide +kernel
theorem dX7_layOrder_25 : decode cX7_layOrder 25 = .ok (.istore_n 2, 1) := by decide +kernel
theorem dX7_layOrder_26 : decode cX7_layOrder 26 = .ok (.aload_n 0, 1) := by decide +kernel
theorem dX7_layOrder_27 : decode cX7_layOrder 27 = .ok (.iconst (-1), 1) := by decide +kernel
theorem dX7_layOrder_28 : decode cX7_layOrder 28 = .ok (.putfield 183, 3) := by decide +kernel
theorem dX7_layOrder_31 : decode cX7_layOrder 31 = .ok (.aload_n 0, 1) := by decide +kernel
theorem dX7_layOrder_32 : decode cX7_layOrder 32 = .ok (.iload_n 2, 1) := by decide +kernel
theorem dX7_layOrder_33 : decode cX7_layOrder 33 = .ok (.putfield 193, 3) := by decide +kernel
theorem dX7_layOrder_36 : decode cX7_layOrder 36 = .ok (.iconst 0, 1) := by decide +kernel
theorem dX7_layOrder_37 : decode cX7_layOrder 37 = .ok (.istore_n 3, 1) := by decide +kernel
theorem dX7_layOrder_38 : decode cX7_layOrder 38 = .ok (.iload_n 3, 1) := by decide +kernel
theorem dX7_layOrder_39 : decode cX7_layOrder 39 = .ok (.sipush 256, 3) := by decide +kernel
theorem dX7_layOrder_42 : decode cX7_layOrder 42 = .ok (.if_icmp .ge 179, 3) := by decide +kernel
theorem dX7_layOrder_45 : decode cX7_layOrder 45 = .ok (.iconst 0, 1) := by decide +kernel
theorem dX7_layOrder_46 : decode cX7_layOrder 46 = .ok (.istore 4, 2) := by decide +kernel
theorem dX7_layOrder_48 : decode cX7_layOrder 48 = .ok (.iload_n 3, 1) := by decide +kernel
theorem dX7_layOrder_49 : decode cX7_layOrder 49 = .ok (.istore 5, 2) := by decide +kernel
theorem dX7_layOrder_51 : decode cX7_layOrder 51 = .ok (.iconst 3, 1) := by decide +kernel
theorem dX7_layOrder_52 : decode cX7_layOrder 52 = .ok (.istore 6, 2) := by decide +kernel
theorem dX7_layOrder_54 : decode cX7_layOrder 54 = .ok (.iload 6, 2) := by decide +kernel
theorem dX7_layOrder_56 : decode cX7_layOrder 56 = .ok (.ifCond .lt 26, 3) := by decide +kernel
theorem dX7_layOrder_59 : decode cX7_layOrder 59 = .ok (.aload_n 0, 1) := by decide +kernel
theorem dX7_layOrder_60 : decode cX7_layOrder 60 = .ok (.getfield 46, 3) := by decide +kernel
theorem dX7_layOrder_63 : decode cX7_layOrder 63 = .ok (.iload 6, 2) := by decide +kernel
theorem dX7_layOrder_65 : decode cX7_layOrder 65 = .ok (.iload 5, 2) := by decide +kernel
theorem dX7_layOrder_67 : decode cX7_layOrder 67 = .ok (.iconst 4, 1) := by decide +kernel
theorem dX7_layOrder_68 : decode cX7_layOrder 68 = .ok (.irem, 1) := by decide +kernel
theorem dX7_layOrder_69 : decode cX7_layOrder 69 = .ok (.iastore, 1) := by decide +kernel
theorem dX7_layOrder_70 : decode cX7_layOrder 70 = .ok (.iload 5, 2) := by decide +kernel
theorem dX7_layOrder_72 : decode cX7_layOrder 72 = .ok (.iconst 4, 1) := by decide +kernel
theorem dX7_layOrder_73 : decode cX7_layOrder 73 = .ok (.idiv, 1) := by decide +kernel
theorem dX7_layOrder_74 : decode cX7_layOrder 74 = .ok (.istore 5, 2) := by decide +kernel
theorem dX7_layOrder_76 : decode cX7_layOrder 76 = .ok (.iinc 6 (-1), 3) := by decide +kernel
theorem dX7_layOrder_79 : decode cX7_layOrder 79 = .ok (.goto (-25), 3) := by decide +kernel
theorem dX7_layOrder_82 : decode cX7_layOrder 82 = .ok (.iconst 1, 1) := by decide +kernel
theorem dX7_layOrder_83 : decode cX7_layOrder 83 = .ok (.istore 6, 2) := by decide +kernel
theorem dX7_layOrder_85 : decode cX7_layOrder 85 = .ok (.iconst 0, 1) := by decide +kernel
theorem dX7_layOrder_86 : decode cX7_layOrder 86 = .ok (.istore 7, 2) := by decide +kernel
theorem dX7_layOrder_88 : decode cX7_layOrder 88 = .ok (.iload 7, 2) := by decide +kernel
theorem dX7_layOrder_90 : decode cX7_layOrder 90 = .ok (.iconst 4, 1) := by decide +kernel
theorem dX7_layOrder_91 : decode cX7_layOrder 91 = .ok (.if_icmp .ge 61, 3) := by decide +kernel
theorem dX7_layOrder_94 : decode cX7_layOrder 94 = .ok (.iload 4, 2) := by decide +kernel
theorem dX7_layOrder_96 : decode cX7_layOrder 96 = .ok (.iload 7, 2) := by decide +kernel
theorem dX7_layOrder_98 : decode cX7_layOrder 98 = .ok (.iload_n 2, 1) := by decide +kernel
theorem dX7_layOrder_99 : decode cX7_layOrder 99 = .ok (.if_icmp .ge 15, 3) := by decide +kernel
theorem dX7_layOrder_102 : decode cX7_layOrder 102 = .ok (.iconst 1, 1) := by decide +kernel
theorem dX7_layOrder_103 : decode cX7_layOrder 103 = .ok (.aload_n 0, 1) := by decide +kernel
theorem dX7_layOrder_104 : decode cX7_layOrder 104 = .ok (.getfield 46, 3) := by decide +kernel
theorem dX7_layOrder_107 : decode cX7_layOrder 107 = .ok (.iload 7, 2) := by decide +kernel
theorem dX7_layOrder_109 : decode cX7_layOrder 109 = .ok (.iaload, 1) := by decide +kernel
theorem dX7_layOrder_110 : decode cX7_layOrder 110 = .ok (.ishl, 1) := by decide +kernel
theorem dX7_layOrder_111 : decode cX7_layOrder 111 = .ok (.goto 4, 3) := by decide +kernel
theorem dX7_layOrder_114 : decode cX7_layOrder 114 = .ok (.iconst 0, 1) := by decide +kernel
theorem dX7_layOrder_115 : decode cX7_layOrder 115 = .ok (.ior, 1) := by decide +kernel
theorem dX7_layOrder_116 : decode cX7_layOrder 116 = .ok (.istore 4, 2) := by decide +kernel
theorem dX7_layOrder_118 : decode cX7_layOrder 118 = .ok (.iload 6, 2) := by decide +kernel
theorem dX7_layOrder_120 : decode cX7_layOrder 120 = .ok (.ifCond .eq 23, 3) := by decide +kernel
theorem dX7_layOrder_123 : decode cX7_layOrder 123 = .ok (.iload 7, 2) := by decide +kernel
theorem dX7_layOrder_125 : decode cX7_layOrder 125 = .ok (.iload_n 2, 1) := by decide +kernel
theorem dX7_layOrder_126 : decode cX7_layOrder 126 = .ok (.if_icmp .lt 13, 3) := by decide +kernel
theorem dX7_layOrder_129 : decode cX7_layOrder 129 = .ok (.aload_n 0, 1) := by decide +kernel
theorem dX7_layOrder_130 : decode cX7_layOrder 130 = .ok (.getfield 46, 3) := by decide +kernel
theorem dX7_layOrder_133 : decode cX7_layOrder 133 = .ok (.iload 7, 2) := by decide +kernel
theorem dX7_layOrder_135 : decode cX7_layOrder 135 = .ok (.iaload, 1) := by decide +kernel
theorem dX7_layOrder_136 : decode cX7_layOrder 136 = .ok (.ifCond .ne 7, 3) := by decide +kernel
theorem dX7_layOrder_139 : decode cX7_layOrder 139 = .ok (.iconst 1, 1) := by decide +kernel
theorem dX7_layOrder_140 : decode cX7_layOrder 140 = .ok (.goto 4, 3) := by decide +kernel
theorem dX7_layOrder_143 : decode cX7_layOrder 143 = .ok (.iconst 0, 1) := by decide +kernel
theorem dX7_layOrder_144 : decode cX7_layOrder 144 = .ok (.istore 6, 2) := by decide +kernel
theorem dX7_layOrder_146 : decode cX7_layOrder 146 = .ok (.iinc 7 1, 3) := by decide +kernel
theorem dX7_layOrder_149 : decode cX7_layOrder 149 = .ok (.goto (-61), 3) := by decide +kernel
theorem dX7_layOrder_152 : decode cX7_layOrder 152 = .ok (.iload 4, 2) := by decide +kernel
theorem dX7_layOrder_154 : decode cX7_layOrder 154 = .ok (.iload_n 1, 1) := by decide +kernel
theorem dX7_layOrder_155 : decode cX7_layOrder 155 = .ok (.if_icmp .ne 16, 3) := by decide +kernel
theorem dX7_layOrder_158 : decode cX7_layOrder 158 = .ok (.iload 6, 2) := by decide +kernel
theorem dX7_layOrder_160 : decode cX7_layOrder 160 = .ok (.ifCond .eq 11, 3) := by decide +kernel
theorem dX7_layOrder_163 : decode cX7_layOrder 163 = .ok (.aload_n 0, 1) := by decide +kernel
theorem dX7_layOrder_164 : decode cX7_layOrder 164 = .ok (.iload_n 2, 1) := by decide +kernel
theorem dX7_layOrder_165 : decode cX7_layOrder 165 = .ok (.invokevirtual 202, 3) := by decide +kernel
theorem dX7_layOrder_168 : decode cX7_layOrder 168 = .ok (.goto 4, 3) := by decide +kernel
theorem dX7_layOrder_171 : decode cX7_layOrder 171 = .ok (.iconst (-1), 1) := by decide +kernel
theorem dX7_layOrder_172 : decode cX7_layOrder 172 = .ok (.istore 7, 2) := by decide +kernel
theorem dX7_layOrder_174 : decode cX7_layOrder 174 = .ok (.iload 7, 2) := by decide +kernel
theorem dX7_layOrder_176 : decode cX7_layOrder 176 = .ok (.ifCond .lt 39, 3) := by decide +kernel
theorem dX7_layOrder_179 : decode cX7_layOrder 179 = .ok (.aload_n 0, 1) := by decide +kernel
theorem dX7_layOrder_180 : decode cX7_layOrder 180 = .ok (.getfield 183, 3) := by decide +kernel
theorem dX7_layOrder_183 : decode cX7_layOrder 183 = .ok (.ifCond .lt 12, 3) := by decide +kernel
theorem dX7_layOrder_186 : decode cX7_layOrder 186 = .ok (.iload 7, 2) := by decide +kernel
theorem dX7_layOrder_188 : decode cX7_layOrder 188 = .ok (.aload_n 0, 1) := by decide +kernel
theorem dX7_layOrder_189 : decode cX7_layOrder 189 = .ok (.getfield 183, 3) := by decide +kernel
theorem dX7_layOrder_192 : decode cX7_layOrder 192 = .ok (.if_icmp .ge 23, 3) := by decide +kernel
theorem dX7_layOrder_195 : decode cX7_layOrder 195 = .ok (.aload_n 0, 1) := by decide +kernel
theorem dX7_layOrder_196 : decode cX7_layOrder 196 = .ok (.iload 7, 2) := by decide +kernel
theorem dX7_layOrder_198 : decode cX7_layOrder 198 = .ok (.putfield 183, 3) := by decide +kernel
theorem dX7_layOrder_201 : decode cX7_layOrder 201 = .ok (.aload_n 0, 1) := by decide +kernel
theorem dX7_layOrder_202 : decode cX7_layOrder 202 = .ok (.getfield 46, 3) := by decide +kernel
theorem dX7_layOrder_205 : decode cX7_layOrder 205 = .ok (.iconst 0, 1) := by decide +kernel
theorem dX7_layOrder_206 : decode cX7_layOrder 206 = .ok (.aload_n 0, 1) := by decide +kernel
theorem dX7_layOrder_207 : decode cX7_layOrder 207 = .ok (.getfield 49, 3) := by decide +kernel
theorem dX7_layOrder_210 : decode cX7_layOrder 210 = .ok (.iconst 0, 1) := by decide +kernel
theorem dX7_layOrder_211 : decode cX7_layOrder 211 = .ok (.iload_n 2, 1) := by decide +kernel
theorem dX7_layOrder_212 : decode cX7_layOrder 212 = .ok (.invokestatic 110, 3) := by decide +kernel
theorem dX7_layOrder_215 : decode cX7_layOrder 215 = .ok (.iinc 3 1, 3) := by decide +kernel
theorem dX7_layOrder_218 : decode cX7_layOrder 218 = .ok (.goto (-180), 3) := by decide +kernel
theorem dX7_layOrder_221 : decode cX7_layOrder 221 = .ok (.return_, 1) := by decide +kernel
theorem dX7_kicks_0 : decode cX7_kicks 0 = .ok (.aload_n 0, 1) := by decide +kernel
theorem dX7_kicks_1 : decode cX7_kicks 1 = .ok (.invokevirtual 205, 3) := by decide +kernel
theorem dX7_kicks_4 : decode cX7_kicks 4 = .ok (.iconst 0, 1) := by decide +kernel
theorem dX7_kicks_5 : decode cX7_kicks 5 = .ok (.istore_n 2, 1) := by decide +kernel
theorem dX7_kicks_6 : decode cX7_kicks 6 = .ok (.iconst 0, 1) := by decide +kernel
theorem dX7_kicks_7 : decode cX7_kicks 7 = .ok (.istore_n 3, 1) := by decide +kernel
theorem dX7_kicks_8 : decode cX7_kicks 8 = .ok (.iload_n 3, 1) := by decide +kernel
theorem dX7_kicks_9 : decode cX7_kicks 9 = .ok (.iload_n 1, 1) := by decide +kernel
theorem dX7_kicks_10 : decode cX7_kicks 10 = .ok (.if_icmp .ge 70, 3) := by decide +kernel
theorem dX7_kicks_13 : decode cX7_kicks 13 = .ok (.aload_n 0, 1) := by decide +kernel
theorem dX7_kicks_14 : decode cX7_kicks 14 = .ok (.aload_n 0, 1) := by decide +kernel
theorem dX7_kicks_15 : decode cX7_kicks 15 = .ok (.getfield 34, 3) := by decide +kernel
theorem dX7_kicks_18 : decode cX7_kicks 18 = .ok (.aload_n 0, 1) := by decide +kernel
theorem dX7_kicks_19 : decode cX7_kicks 19 = .ok (.getfield 46, 3) := by decide +kernel
theorem dX7_kicks_22 : decode cX7_kicks 22 = .ok (.iload_n 3, 1) := by decide +kernel
theorem dX7_kicks_23 : decode cX7_kicks 23 = .ok (.iaload, 1) := by decide +kernel
theorem dX7_kicks_24 : decode cX7_kicks 24 = .ok (.aload_n 0, 1) := by decide +kernel
theorem dX7_kicks_25 : decode cX7_kicks 25 = .ok (.getfield 34, 3) := by decide +kernel
theorem dX7_kicks_28 : decode cX7_kicks 28 = .ok (.bipush 29, 2) := by decide +kernel
theorem dX7_kicks_30 : decode cX7_kicks 30 = .ok (.iaload, 1) := by decide +kernel
theorem dX7_kicks_31 : decode cX7_kicks 31 = .ok (.ifCond .ne 7, 3) := by decide +kernel
theorem dX7_kicks_34 : decode cX7_kicks 34 = .ok (.iconst 2, 1) := by decide +kernel
theorem dX7_kicks_35 : decode cX7_kicks 35 = .ok (.goto 4, 3) := by decide +kernel
theorem dX7_kicks_38 : decode cX7_kicks 38 = .ok (.iconst 4, 1) := by decide +kernel
theorem dX7_kicks_39 : decode cX7_kicks 39 = .ok (.invokevirtual 208, 3) := by decide +kernel
theorem dX7_kicks_42 : decode cX7_kicks 42 = .ok (.istore 4, 2) := by decide +kernel
theorem dX7_kicks_44 : decode cX7_kicks 44 = .ok (.iload 4, 2) := by decide +kernel
theorem dX7_kicks_46 : decode cX7_kicks 46 = .ok (.bipush (-4), 2) := by decide +kernel
theorem dX7_kicks_48 : decode cX7_kicks 48 = .ok (.if_icmp .ne 5, 3) := by decide +kernel
theorem dX7_kicks_51 : decode cX7_kicks 51 = .ok (.iconst (-1), 1) := by decide +kernel
theorem dX7_kicks_52 : decode cX7_kicks 52 = .ok (.ireturn, 1) := by decide +kernel
theorem dX7_kicks_53 : decode cX7_kicks 53 = .ok (.aload_n 0, 1) := by decide +kernel
theorem dX7_kicks_54 : decode cX7_kicks 54 = .ok (.aload_n 0, 1) := by decide +kernel
theorem dX7_kicks_55 : decode cX7_kicks 55 = .ok (.getfield 34, 3) := by decide +kernel
theorem dX7_kicks_58 : decode cX7_kicks 58 = .ok (.aload_n 0, 1) := by decide +kernel
theorem dX7_kicks_59 : decode cX7_kicks 59 = .ok (.getfield 46, 3) := by decide +kernel
theorem dX7_kicks_62 : decode cX7_kicks 62 = .ok (.iload_n 3, 1) := by decide +kernel
theorem dX7_kicks_63 : decode cX7_kicks 63 = .ok (.iaload, 1) := by decide +kernel
theorem dX7_kicks_64 : decode cX7_kicks 64 = .ok (.iload 4, 2) := by decide +kernel
theorem dX7_kicks_66 : decode cX7_kicks 66 = .ok (.invokevirtual 168, 3) := by decide +kernel
theorem dX7_kicks_69 : decode cX7_kicks 69 = .ok (.iload_n 2, 1) := by decide +kernel
theorem dX7_kicks_70 : decode cX7_kicks 70 = .ok (.iload 4, 2) := by decide +kernel
theorem dX7_kicks_72 : decode cX7_kicks 72 = .ok (.iadd, 1) := by decide +kernel
theorem dX7_kicks_73 : decode cX7_kicks 73 = .ok (.istore_n 2, 1) := by decide +kernel
theorem dX7_kicks_74 : decode cX7_kicks 74 = .ok (.iinc 3 1, 3) := by decide +kernel
theorem dX7_kicks_77 : decode cX7_kicks 77 = .ok (.goto (-69), 3) := by decide +kernel
theorem dX7_kicks_80 : decode cX7_kicks 80 = .ok (.iload_n 2, 1) := by decide +kernel
theorem dX7_kicks_81 : decode cX7_kicks 81 = .ok (.ireturn, 1) := by decide +kernel
theorem dX7_order_0 : decode cX7_order 0 = .ok (.iload_n 1, 1) := by decide +kernel
theorem dX7_order_1 : decode cX7_order 1 = .ok (.iconst (-1), 1) := by decide +kernel
theorem dX7_order_2 : decode cX7_order 2 = .ok (.iconst 3, 1) := by decide +kernel
theorem dX7_order_3 : decode cX7_order 3 = .ok (.invokestatic 63, 3) := by decide +kernel
theorem dX7_order_6 : decode cX7_order 6 = .ok (.ifCond .ne 5, 3) := by decide +kernel
theorem dX7_order_9 : decode cX7_order 9 = .ok (.iconst (-1), 1) := by decide +kernel
theorem dX7_order_10 : decode cX7_order 10 = .ok (.ireturn, 1) := by decide +kernel
theorem dX7_order_11 : decode cX7_order 11 = .ok (.aload_n 0, 1) := by decide +kernel
theorem dX7_order_12 : decode cX7_order 12 = .ok (.invokevirtual 211, 3) := by decide +kernel
theorem dX7_order_15 : decode cX7_order 15 = .ok (.aload_n 0, 1) := by decide +kernel
theorem dX7_order_16 : decode cX7_order 16 = .ok (.getfield 183, 3) := by decide +kernel
theorem dX7_order_19 : decode cX7_order 19 = .ok (.ifCond .ge 6, 3) := by decide +kernel
theorem dX7_order_22 : decode cX7_order 22 = .ok (.bipush (-4), 2) := by decide +kernel
theorem dX7_order_24 : decode cX7_order 24 = .ok (.ireturn, 1) := by decide +kernel
theorem dX7_order_25 : decode cX7_order 25 = .ok (.iload_n 1, 1) := by decide +kernel
theorem dX7_order_26 : decode cX7_order 26 = .ok (.iconst (-1), 1) := by decide +kernel
theorem dX7_order_27 : decode cX7_order 27 = .ok (.if_icmp .ne 10, 3) := by decide +kernel
theorem dX7_order_30 : decode cX7_order 30 = .ok (.aload_n 0, 1) := by decide +kernel
theorem dX7_order_31 : decode cX7_order 31 = .ok (.getfield 183, 3) := by decide +kernel
theorem dX7_order_34 : decode cX7_order 34 = .ok (.goto 22, 3) := by decide +kernel
theorem dX7_order_37 : decode cX7_order 37 = .ok (.iload_n 1, 1) := by decide +kernel
theorem dX7_order_38 : decode cX7_order 38 = .ok (.aload_n 0, 1) := by decide +kernel
theorem dX7_order_39 : decode cX7_order 39 = .ok (.getfield 193, 3) := by decide +kernel
theorem dX7_order_42 : decode cX7_order 42 = .ok (.if_icmp .ge 12, 3) := by decide +kernel
theorem dX7_order_45 : decode cX7_order 45 = .ok (.aload_n 0, 1) := by decide +kernel
theorem dX7_order_46 : decode cX7_order 46 = .ok (.getfield 49, 3) := by decide +kernel
theorem dX7_order_49 : decode cX7_order 49 = .ok (.iload_n 1, 1) := by decide +kernel
theorem dX7_order_50 : decode cX7_order 50 = .ok (.iaload, 1) := by decide +kernel
theorem dX7_order_51 : decode cX7_order 51 = .ok (.goto 5, 3) := by decide +kernel
theorem dX7_order_54 : decode cX7_order 54 = .ok (.bipush (-4), 2) := by decide +kernel
theorem dX7_order_56 : decode cX7_order 56 = .ok (.ireturn, 1) := by decide +kernel
theorem dX7_kickFor_0 : decode cX7_kickFor 0 = .ok (.iload_n 1, 1) := by decide +kernel
theorem dX7_kickFor_1 : decode cX7_kickFor 1 = .ok (.iconst 0, 1) := by decide +kernel
theorem dX7_kickFor_2 : decode cX7_kickFor 2 = .ok (.iconst 3, 1) := by decide +kernel
theorem dX7_kickFor_3 : decode cX7_kickFor 3 = .ok (.invokestatic 63, 3) := by decide +kernel
theorem dX7_kickFor_6 : decode cX7_kickFor 6 = .ok (.ifCond .eq 13, 3) := by decide +kernel
theorem dX7_kickFor_9 : decode cX7_kickFor 9 = .ok (.iload_n 2, 1) := by decide +kernel
theorem dX7_kickFor_10 : decode cX7_kickFor 10 = .ok (.iconst 0, 1) := by decide +kernel
theorem dX7_kickFor_11 : decode cX7_kickFor 11 = .ok (.bipush 30, 2) := by decide +kernel
theorem dX7_kickFor_13 : decode cX7_kickFor 13 = .ok (.invokestatic 63, 3) := by decide +kernel
theorem dX7_kickFor_16 : decode cX7_kickFor 16 = .ok (.ifCond .ne 5, 3) := by decide +kernel
theorem dX7_kickFor_19 : decode cX7_kickFor 19 = .ok (.iconst (-1), 1) := by decide +kernel
theorem dX7_kickFor_20 : decode cX7_kickFor 20 = .ok (.ireturn, 1) := by decide +kernel
theorem dX7_kickFor_21 : decode cX7_kickFor 21 = .ok (.aload_n 0, 1) := by decide +kernel
theorem dX7_kickFor_22 : decode cX7_kickFor 22 = .ok (.getfield 31, 3) := by decide +kernel
theorem dX7_kickFor_25 : decode cX7_kickFor 25 = .ok (.iload_n 1, 1) := by decide +kernel
theorem dX7_kickFor_26 : decode cX7_kickFor 26 = .ok (.invokestatic 165, 3) := by decide +kernel
theorem dX7_kickFor_29 : decode cX7_kickFor 29 = .ok (.ifCond .eq 16, 3) := by decide +kernel
theorem dX7_kickFor_32 : decode cX7_kickFor 32 = .ok (.aload_n 0, 1) := by decide +kernel
theorem dX7_kickFor_33 : decode cX7_kickFor 33 = .ok (.aload_n 0, 1) := by decide +kernel
theorem dX7_kickFor_34 : decode cX7_kickFor 34 = .ok (.getfield 31, 3) := by decide +kernel
theorem dX7_kickFor_37 : decode cX7_kickFor 37 = .ok (.iload_n 1, 1) := by decide +kernel
theorem dX7_kickFor_38 : decode cX7_kickFor 38 = .ok (.iload_n 2, 1) := by decide +kernel
theorem dX7_kickFor_39 : decode cX7_kickFor 39 = .ok (.invokevirtual 208, 3) := by decide +kernel
theorem dX7_kickFor_42 : decode cX7_kickFor 42 = .ok (.goto 5, 3) := by decide +kernel
theorem dX7_kickFor_45 : decode cX7_kickFor 45 = .ok (.bipush (-4), 2) := by decide +kernel
theorem dX7_kickFor_47 : decode cX7_kickFor 47 = .ok (.ireturn, 1) := by decide +kernel
theorem dX7_wavesAt_0 : decode cX7_wavesAt 0 = .ok (.aload_n 0, 1) := by decide +kernel
theorem dX7_wavesAt_1 : decode cX7_wavesAt 1 = .ok (.invokevirtual 205, 3) := by decide +kernel
theorem dX7_wavesAt_4 : decode cX7_wavesAt 4 = .ok (.iconst 0, 1) := by decide +kernel
theorem dX7_wavesAt_5 : decode cX7_wavesAt 5 = .ok (.istore_n 2, 1) := by decide +kernel
theorem dX7_wavesAt_6 : decode cX7_wavesAt 6 = .ok (.iload_n 2, 1) := by decide +kernel
theorem dX7_wavesAt_7 : decode cX7_wavesAt 7 = .ok (.bipush 60, 2) := by decide +kernel
theorem dX7_wavesAt_9 : decode cX7_wavesAt 9 = .ok (.if_icmp .gt 32, 3) := by decide +kernel
theorem dX7_wavesAt_12 : decode cX7_wavesAt 12 = .ok (.aload_n 0, 1) := by decide +kernel
theorem dX7_wavesAt_13 : decode cX7_wavesAt 13 = .ok (.getfield 34, 3) := by decide +kernel
theorem dX7_wavesAt_16 : decode cX7_wavesAt 16 = .ok (.bipush 25, 2) := by decide +kernel
theorem dX7_wavesAt_18 : decode cX7_wavesAt 18 = .ok (.iload_n 1, 1) := by decide +kernel
theorem dX7_wavesAt_19 : decode cX7_wavesAt 19 = .ok (.iadd, 1) := by decide +kernel
theorem dX7_wavesAt_20 : decode cX7_wavesAt 20 = .ok (.iaload, 1) := by decide +kernel
theorem dX7_wavesAt_21 : decode cX7_wavesAt 21 = .ok (.iconst 2, 1) := by decide +kernel
theorem dX7_wavesAt_22 : decode cX7_wavesAt 22 = .ok (.if_icmp .ge 5, 3) := by decide +kernel
theorem dX7_wavesAt_25 : decode cX7_wavesAt 25 = .ok (.iload_n 2, 1) := by decide +kernel
theorem dX7_wavesAt_26 : decode cX7_wavesAt 26 = .ok (.ireturn, 1) := by decide +kernel
theorem dX7_wavesAt_27 : decode cX7_wavesAt 27 = .ok (.aload_n 0, 1) := by decide +kernel
theorem dX7_wavesAt_28 : decode cX7_wavesAt 28 = .ok (.aload_n 0, 1) := by decide +kernel
theorem dX7_wavesAt_29 : decode cX7_wavesAt 29 = .ok (.getfield 34, 3) := by decide +kernel
theorem dX7_wavesAt_32 : decode cX7_wavesAt 32 = .ok (.invokevirtual 176, 3) := by decide +kernel
theorem dX7_wavesAt_35 : decode cX7_wavesAt 35 = .ok (.iinc 2 1, 3) := by decide +kernel
theorem dX7_wavesAt_38 : decode cX7_wavesAt 38 = .ok (.goto (-32), 3) := by decide +kernel
theorem dX7_wavesAt_41 : decode cX7_wavesAt 41 = .ok (.bipush 99, 2) := by decide +kernel
theorem dX7_wavesAt_43 : decode cX7_wavesAt 43 = .ok (.ireturn, 1) := by decide +kernel
theorem dX7_waves_0 : decode cX7_waves 0 = .ok (.bipush 99, 2) := by decide +kernel
theorem dX7_waves_2 : decode cX7_waves 2 = .ok (.istore_n 1, 1) := by decide +kernel
theorem dX7_waves_3 : decode cX7_waves 3 = .ok (.iconst 0, 1) := by decide +kernel
theorem dX7_waves_4 : decode cX7_waves 4 = .ok (.istore_n 2, 1) := by decide +kernel
theorem dX7_waves_5 : decode cX7_waves 5 = .ok (.iload_n 2, 1) := by decide +kernel
theorem dX7_waves_6 : decode cX7_waves 6 = .ok (.iconst 4, 1) := by decide +kernel
theorem dX7_waves_7 : decode cX7_waves 7 = .ok (.if_icmp .ge 42, 3) := by decide +kernel
theorem dX7_waves_10 : decode cX7_waves 10 = .ok (.aload_n 0, 1) := by decide +kernel
theorem dX7_waves_11 : decode cX7_waves 11 = .ok (.getfield 31, 3) := by decide +kernel
theorem dX7_waves_14 : decode cX7_waves 14 = .ok (.iload_n 2, 1) := by decide +kernel
theorem dX7_waves_15 : decode cX7_waves 15 = .ok (.invokestatic 130, 3) := by decide +kernel
theorem dX7_waves_18 : decode cX7_waves 18 = .ok (.ifCond .eq 11, 3) := by decide +kernel
theorem dX7_waves_21 : decode cX7_waves 21 = .ok (.aload_n 0, 1) := by decide +kernel
theorem dX7_waves_22 : decode cX7_waves 22 = .ok (.iload_n 2, 1) := by decide +kernel
theorem dX7_waves_23 : decode cX7_waves 23 = .ok (.invokevirtual 214, 3) := by decide +kernel
theorem dX7_waves_26 : decode cX7_waves 26 = .ok (.goto 5, 3) := by decide +kernel
theorem dX7_waves_29 : decode cX7_waves 29 = .ok (.bipush 99, 2) := by decide +kernel
theorem dX7_waves_31 : decode cX7_waves 31 = .ok (.istore_n 3, 1) := by decide +kernel
theorem dX7_waves_32 : decode cX7_waves 32 = .ok (.iload_n 3, 1) := by decide +kernel
theorem dX7_waves_33 : decode cX7_waves 33 = .ok (.iload_n 1, 1) := by decide +kernel
theorem dX7_waves_34 : decode cX7_waves 34 = .ok (.if_icmp .ge 7, 3) := by decide +kernel
theorem dX7_waves_37 : decode cX7_waves 37 = .ok (.iload_n 3, 1) := by decide +kernel
theorem dX7_waves_38 : decode cX7_waves 38 = .ok (.goto 4, 3) := by decide +kernel
theorem dX7_waves_41 : decode cX7_waves 41 = .ok (.iload_n 1, 1) := by decide +kernel
theorem dX7_waves_42 : decode cX7_waves 42 = .ok (.istore_n 1, 1) := by decide +kernel
theorem dX7_waves_43 : decode cX7_waves 43 = .ok (.iinc 2 1, 3) := by decide +kernel
theorem dX7_waves_46 : decode cX7_waves 46 = .ok (.goto (-41), 3) := by decide +kernel
theorem dX7_waves_49 : decode cX7_waves 49 = .ok (.iload_n 1, 1) := by decide +kernel
theorem dX7_waves_50 : decode cX7_waves 50 = .ok (.bipush 99, 2) := by decide +kernel
theorem dX7_waves_52 : decode cX7_waves 52 = .ok (.if_icmp .ne 8, 3) := by decide +kernel
theorem dX7_waves_55 : decode cX7_waves 55 = .ok (.bipush (-4), 2) := by decide +kernel
theorem dX7_waves_57 : decode cX7_waves 57 = .ok (.goto 4, 3) := by decide +kernel
theorem dX7_waves_60 : decode cX7_waves 60 = .ok (.iload_n 1, 1) := by decide +kernel
theorem dX7_waves_61 : decode cX7_waves 61 = .ok (.ireturn, 1) := by decide +kernel
theorem dX7_longest_0 : decode cX7_longest 0 = .ok (.bipush (-4), 2) := by decide +kernel
theorem dX7_longest_2 : decode cX7_longest 2 = .ok (.istore_n 1, 1) := by decide +kernel
theorem dX7_longest_3 : decode cX7_longest 3 = .ok (.iconst (-1), 1) := by decide +kernel
theorem dX7_longest_4 : decode cX7_longest 4 = .ok (.istore_n 2, 1) := by decide +kernel
theorem dX7_longest_5 : decode cX7_longest 5 = .ok (.iconst 0, 1) := by decide +kernel
theorem dX7_longest_6 : decode cX7_longest 6 = .ok (.istore_n 3, 1) := by decide +kernel
theorem dX7_longest_7 : decode cX7_longest 7 = .ok (.iload_n 3, 1) := by decide +kernel
theorem dX7_longest_8 : decode cX7_longest 8 = .ok (.iconst 4, 1) := by decide +kernel
theorem dX7_longest_9 : decode cX7_longest 9 = .ok (.if_icmp .ge 56, 3) := by decide +kernel
theorem dX7_longest_12 : decode cX7_longest 12 = .ok (.aload_n 0, 1) := by decide +kernel
theorem dX7_longest_13 : decode cX7_longest 13 = .ok (.getfield 31, 3) := by decide +kernel
theorem dX7_longest_16 : decode cX7_longest 16 = .ok (.iload_n 3, 1) := by decide +kernel
theorem dX7_longest_17 : decode cX7_longest 17 = .ok (.invokestatic 130, 3) := by decide +kernel
theorem dX7_longest_20 : decode cX7_longest 20 = .ok (.ifCond .eq 11, 3) := by decide +kernel
theorem dX7_longest_23 : decode cX7_longest 23 = .ok (.aload_n 0, 1) := by decide +kernel
theorem dX7_longest_24 : decode cX7_longest 24 = .ok (.iload_n 3, 1) := by decide +kernel
theorem dX7_longest_25 : decode cX7_longest 25 = .ok (.invokevirtual 214, 3) := by decide +kernel
theorem dX7_longest_28 : decode cX7_longest 28 = .ok (.goto 4, 3) := by decide +kernel
theorem dX7_longest_31 : decode cX7_longest 31 = .ok (.iconst (-1), 1) := by decide +kernel
theorem dX7_longest_32 : decode cX7_longest 32 = .ok (.istore 4, 2) := by decide +kernel
theorem dX7_longest_34 : decode cX7_longest 34 = .ok (.iload 4, 2) := by decide +kernel
theorem dX7_longest_36 : decode cX7_longest 36 = .ok (.iload_n 2, 1) := by decide +kernel
theorem dX7_longest_37 : decode cX7_longest 37 = .ok (.if_icmp .le 7, 3) := by decide +kernel
theorem dX7_longest_40 : decode cX7_longest 40 = .ok (.iload_n 3, 1) := by decide +kernel
theorem dX7_longest_41 : decode cX7_longest 41 = .ok (.goto 4, 3) := by decide +kernel
theorem dX7_longest_44 : decode cX7_longest 44 = .ok (.iload_n 1, 1) := by decide +kernel
theorem dX7_longest_45 : decode cX7_longest 45 = .ok (.istore_n 1, 1) := by decide +kernel
theorem dX7_longest_46 : decode cX7_longest 46 = .ok (.iload 4, 2) := by decide +kernel
theorem dX7_longest_48 : decode cX7_longest 48 = .ok (.iload_n 2, 1) := by decide +kernel
theorem dX7_longest_49 : decode cX7_longest 49 = .ok (.if_icmp .le 8, 3) := by decide +kernel
theorem dX7_longest_52 : decode cX7_longest 52 = .ok (.iload 4, 2) := by decide +kernel
theorem dX7_longest_54 : decode cX7_longest 54 = .ok (.goto 4, 3) := by decide +kernel
theorem dX7_longest_57 : decode cX7_longest 57 = .ok (.iload_n 2, 1) := by decide +kernel
theorem dX7_longest_58 : decode cX7_longest 58 = .ok (.istore_n 2, 1) := by decide +kernel
theorem dX7_longest_59 : decode cX7_longest 59 = .ok (.iinc 3 1, 3) := by decide +kernel
theorem dX7_longest_62 : decode cX7_longest 62 = .ok (.goto (-55), 3) := by decide +kernel
theorem dX7_longest_65 : decode cX7_longest 65 = .ok (.iload_n 1, 1) := by decide +kernel
theorem dX7_longest_66 : decode cX7_longest 66 = .ok (.ireturn, 1) := by decide +kernel
theorem dX7_seen_0 : decode cX7_seen 0 = .ok (.iload_n 1, 1) := by decide +kernel
theorem dX7_seen_1 : decode cX7_seen 1 = .ok (.iconst 0, 1) := by decide +kernel
theorem dX7_seen_2 : decode cX7_seen 2 = .ok (.bipush 20, 2) := by decide +kernel
theorem dX7_seen_4 : decode cX7_seen 4 = .ok (.invokestatic 63, 3) := by decide +kernel
theorem dX7_seen_7 : decode cX7_seen 7 = .ok (.ifCond .eq 13, 3) := by decide +kernel
theorem dX7_seen_10 : decode cX7_seen 10 = .ok (.iload_n 2, 1) := by decide +kernel
theorem dX7_seen_11 : decode cX7_seen 11 = .ok (.iconst 0, 1) := by decide +kernel
theorem dX7_seen_12 : decode cX7_seen 12 = .ok (.bipush 40, 2) := by decide +kernel
theorem dX7_seen_14 : decode cX7_seen 14 = .ok (.invokestatic 63, 3) := by decide +kernel
theorem dX7_seen_17 : decode cX7_seen 17 = .ok (.ifCond .ne 5, 3) := by decide +kernel
theorem dX7_seen_20 : decode cX7_seen 20 = .ok (.iconst (-1), 1) := by decide +kernel
theorem dX7_seen_21 : decode cX7_seen 21 = .ok (.ireturn, 1) := by decide +kernel
theorem dX7_seen_22 : decode cX7_seen 22 = .ok (.aload_n 0, 1) := by decide +kernel
theorem dX7_seen_23 : decode cX7_seen 23 = .ok (.getfield 114, 3) := by decide +kernel
theorem dX7_seen_26 : decode cX7_seen 26 = .ok (.bipush 6, 2) := by decide +kernel
theorem dX7_seen_28 : decode cX7_seen 28 = .ok (.if_icmp .ne 6, 3) := by decide +kernel
theorem dX7_seen_31 : decode cX7_seen 31 = .ok (.bipush (-3), 2) := by decide +kernel
theorem dX7_seen_33 : decode cX7_seen 33 = .ok (.ireturn, 1) := by decide +kernel
theorem dX7_seen_34 : decode cX7_seen 34 = .ok (.aload_n 0, 1) := by decide +kernel
theorem dX7_seen_35 : decode cX7_seen 35 = .ok (.getfield 43, 3) := by decide +kernel
theorem dX7_seen_38 : decode cX7_seen 38 = .ok (.iconst 2, 1) := by decide +kernel
theorem dX7_seen_39 : decode cX7_seen 39 = .ok (.aload_n 0, 1) := by decide +kernel
theorem dX7_seen_40 : decode cX7_seen 40 = .ok (.getfield 114, 3) := by decide +kernel
theorem dX7_seen_43 : decode cX7_seen 43 = .ok (.imul, 1) := by decide +kernel
theorem dX7_seen_44 : decode cX7_seen 44 = .ok (.iload_n 1, 1) := by decide +kernel
theorem dX7_seen_45 : decode cX7_seen 45 = .ok (.iastore, 1) := by decide +kernel
theorem dX7_seen_46 : decode cX7_seen 46 = .ok (.aload_n 0, 1) := by decide +kernel
theorem dX7_seen_47 : decode cX7_seen 47 = .ok (.getfield 43, 3) := by decide +kernel
theorem dX7_seen_50 : decode cX7_seen 50 = .ok (.iconst 2, 1) := by decide +kernel
theorem dX7_seen_51 : decode cX7_seen 51 = .ok (.aload_n 0, 1) := by decide +kernel
theorem dX7_seen_52 : decode cX7_seen 52 = .ok (.getfield 114, 3) := by decide +kernel
theorem dX7_seen_55 : decode cX7_seen 55 = .ok (.imul, 1) := by decide +kernel
theorem dX7_seen_56 : decode cX7_seen 56 = .ok (.iconst 1, 1) := by decide +kernel
theorem dX7_seen_57 : decode cX7_seen 57 = .ok (.iadd, 1) := by decide +kernel
theorem dX7_seen_58 : decode cX7_seen 58 = .ok (.iload_n 2, 1) := by decide +kernel
theorem dX7_seen_59 : decode cX7_seen 59 = .ok (.iastore, 1) := by decide +kernel
theorem dX7_seen_60 : decode cX7_seen 60 = .ok (.aload_n 0, 1) := by decide +kernel
theorem dX7_seen_61 : decode cX7_seen 61 = .ok (.dup, 1) := by decide +kernel
theorem dX7_seen_62 : decode cX7_seen 62 = .ok (.getfield 114, 3) := by decide +kernel
theorem dX7_seen_65 : decode cX7_seen 65 = .ok (.iconst 1, 1) := by decide +kernel
theorem dX7_seen_66 : decode cX7_seen 66 = .ok (.iadd, 1) := by decide +kernel
theorem dX7_seen_67 : decode cX7_seen 67 = .ok (.putfield 114, 3) := by decide +kernel
theorem dX7_seen_70 : decode cX7_seen 70 = .ok (.aload_n 0, 1) := by decide +kernel
theorem dX7_seen_71 : decode cX7_seen 71 = .ok (.getfield 114, 3) := by decide +kernel
theorem dX7_seen_74 : decode cX7_seen 74 = .ok (.ireturn, 1) := by decide +kernel
theorem dX7_forget_0 : decode cX7_forget 0 = .ok (.aload_n 0, 1) := by decide +kernel
theorem dX7_forget_1 : decode cX7_forget 1 = .ok (.getfield 114, 3) := by decide +kernel
theorem dX7_forget_4 : decode cX7_forget 4 = .ok (.istore_n 1, 1) := by decide +kernel
theorem dX7_forget_5 : decode cX7_forget 5 = .ok (.aload_n 0, 1) := by decide +kernel
theorem dX7_forget_6 : decode cX7_forget 6 = .ok (.iconst 0, 1) := by decide +kernel
theorem dX7_forget_7 : decode cX7_forget 7 = .ok (.putfield 114, 3) := by decide +kernel
theorem dX7_forget_10 : decode cX7_forget 10 = .ok (.iload_n 1, 1) := by decide +kernel
theorem dX7_forget_11 : decode cX7_forget 11 = .ok (.ireturn, 1) := by decide +kernel
theorem dX7_isSo_0 : decode cX7_isSo 0 = .ok (.iconst 1, 1) := by decide +kernel
theorem dX7_isSo_1 : decode cX7_isSo 1 = .ok (.istore_n 3, 1) := by decide +kernel
theorem dX7_isSo_2 : decode cX7_isSo 2 = .ok (.iconst 0, 1) := by decide +kernel
theorem dX7_isSo_3 : decode cX7_isSo 3 = .ok (.istore 4, 2) := by decide +kernel
theorem dX7_isSo_5 : decode cX7_isSo 5 = .ok (.iload 4, 2) := by decide +kernel
theorem dX7_isSo_7 : decode cX7_isSo 7 = .ok (.aload_n 0, 1) := by decide +kernel
theorem dX7_isSo_8 : decode cX7_isSo 8 = .ok (.getfield 114, 3) := by decide +kernel
theorem dX7_isSo_11 : decode cX7_isSo 11 = .ok (.if_icmp .ge 68, 3) := by decide +kernel
theorem dX7_isSo_14 : decode cX7_isSo 14 = .ok (.aload_n 0, 1) := by decide +kernel
theorem dX7_isSo_15 : decode cX7_isSo 15 = .ok (.getfield 43, 3) := by decide +kernel
theorem dX7_isSo_18 : decode cX7_isSo 18 = .ok (.iconst 2, 1) := by decide +kernel
theorem dX7_isSo_19 : decode cX7_isSo 19 = .ok (.iload 4, 2) := by decide +kernel
theorem dX7_isSo_21 : decode cX7_isSo 21 = .ok (.imul, 1) := by decide +kernel
theorem dX7_isSo_22 : decode cX7_isSo 22 = .ok (.iaload, 1) := by decide +kernel
theorem dX7_isSo_23 : decode cX7_isSo 23 = .ok (.iconst 1, 1) := by decide +kernel
theorem dX7_isSo_24 : decode cX7_isSo 24 = .ok (.iadd, 1) := by decide +kernel
theorem dX7_isSo_25 : decode cX7_isSo 25 = .ok (.iload_n 1, 1) := by decide +kernel
theorem dX7_isSo_26 : decode cX7_isSo 26 = .ok (.iload_n 2, 1) := by decide +kernel
theorem dX7_isSo_27 : decode cX7_isSo 27 = .ok (.iconst 1, 1) := by decide +kernel
theorem dX7_isSo_28 : decode cX7_isSo 28 = .ok (.invokestatic 154, 3) := by decide +kernel
theorem dX7_isSo_31 : decode cX7_isSo 31 = .ok (.isub, 1) := by decide +kernel
theorem dX7_isSo_32 : decode cX7_isSo 32 = .ok (.istore 5, 2) := by decide +kernel
theorem dX7_isSo_34 : decode cX7_isSo 34 = .ok (.iload 5, 2) := by decide +kernel
theorem dX7_isSo_36 : decode cX7_isSo 36 = .ok (.ifCond .ge 7, 3) := by decide +kernel
theorem dX7_isSo_39 : decode cX7_isSo 39 = .ok (.iconst 0, 1) := by decide +kernel
theorem dX7_isSo_40 : decode cX7_isSo 40 = .ok (.goto 5, 3) := by decide +kernel
theorem dX7_isSo_43 : decode cX7_isSo 43 = .ok (.iload 5, 2) := by decide +kernel
theorem dX7_isSo_45 : decode cX7_isSo 45 = .ok (.istore 5, 2) := by decide +kernel
theorem dX7_isSo_47 : decode cX7_isSo 47 = .ok (.iload_n 3, 1) := by decide +kernel
theorem dX7_isSo_48 : decode cX7_isSo 48 = .ok (.ifCond .eq 23, 3) := by decide +kernel
theorem dX7_isSo_51 : decode cX7_isSo 51 = .ok (.iload 5, 2) := by decide +kernel
theorem dX7_isSo_53 : decode cX7_isSo 53 = .ok (.aload_n 0, 1) := by decide +kernel
theorem dX7_isSo_54 : decode cX7_isSo 54 = .ok (.getfield 43, 3) := by decide +kernel
theorem dX7_isSo_57 : decode cX7_isSo 57 = .ok (.iconst 2, 1) := by decide +kernel
theorem dX7_isSo_58 : decode cX7_isSo 58 = .ok (.iload 4, 2) := by decide +kernel
theorem dX7_isSo_60 : decode cX7_isSo 60 = .ok (.imul, 1) := by decide +kernel
theorem dX7_isSo_61 : decode cX7_isSo 61 = .ok (.iconst 1, 1) := by decide +kernel
theorem dX7_isSo_62 : decode cX7_isSo 62 = .ok (.iadd, 1) := by decide +kernel
theorem dX7_isSo_63 : decode cX7_isSo 63 = .ok (.iaload, 1) := by decide +kernel
theorem dX7_isSo_64 : decode cX7_isSo 64 = .ok (.if_icmp .ne 7, 3) := by decide +kernel
theorem dX7_isSo_67 : decode cX7_isSo 67 = .ok (.iconst 1, 1) := by decide +kernel
theorem dX7_isSo_68 : decode cX7_isSo 68 = .ok (.goto 4, 3) := by decide +kernel
theorem dX7_isSo_71 : decode cX7_isSo 71 = .ok (.iconst 0, 1) := by decide +kernel
theorem dX7_isSo_72 : decode cX7_isSo 72 = .ok (.istore_n 3, 1) := by decide +kernel
theorem dX7_isSo_73 : decode cX7_isSo 73 = .ok (.iinc 4 1, 3) := by decide +kernel
theorem dX7_isSo_76 : decode cX7_isSo 76 = .ok (.goto (-71), 3) := by decide +kernel
theorem dX7_isSo_79 : decode cX7_isSo 79 = .ok (.iload_n 3, 1) := by decide +kernel
theorem dX7_isSo_80 : decode cX7_isSo 80 = .ok (.ireturn, 1) := by decide +kernel
theorem dX7_may_0 : decode cX7_may 0 = .ok (.iload_n 1, 1) := by decide +kernel
theorem dX7_may_1 : decode cX7_may 1 = .ok (.iconst 0, 1) := by decide +kernel
theorem dX7_may_2 : decode cX7_may 2 = .ok (.iconst 1, 1) := by decide +kernel
theorem dX7_may_3 : decode cX7_may 3 = .ok (.invokestatic 63, 3) := by decide +kernel
theorem dX7_may_6 : decode cX7_may 6 = .ok (.ifCond .ne 5, 3) := by decide +kernel
theorem dX7_may_9 : decode cX7_may 9 = .ok (.iconst (-1), 1) := by decide +kernel
theorem dX7_may_10 : decode cX7_may 10 = .ok (.ireturn, 1) := by decide +kernel
theorem dX7_may_11 : decode cX7_may 11 = .ok (.iconst 0, 1) := by decide +kernel
theorem dX7_may_12 : decode cX7_may 12 = .ok (.istore_n 2, 1) := by decide +kernel
theorem dX7_may_13 : decode cX7_may 13 = .ok (.iload_n 1, 1) := by decide +kernel
theorem dX7_may_14 : decode cX7_may 14 = .ok (.istore_n 3, 1) := by decide +kernel
theorem dX7_may_15 : decode cX7_may 15 = .ok (.iload_n 3, 1) := by decide +kernel
theorem dX7_may_16 : decode cX7_may 16 = .ok (.iload_n 1, 1) := by decide +kernel
theorem dX7_may_17 : decode cX7_may 17 = .ok (.ifCond .ne 7, 3) := by decide +kernel
theorem dX7_may_20 : decode cX7_may 20 = .ok (.iconst 4, 1) := by decide +kernel
theorem dX7_may_21 : decode cX7_may 21 = .ok (.goto 5, 3) := by decide +kernel
theorem dX7_may_24 : decode cX7_may 24 = .ok (.bipush 10, 2) := by decide +kernel
theorem dX7_may_26 : decode cX7_may 26 = .ok (.if_icmp .ge 55, 3) := by decide +kernel
theorem dX7_may_29 : decode cX7_may 29 = .ok (.iload_n 1, 1) := by decide +kernel
theorem dX7_may_30 : decode cX7_may 30 = .ok (.ifCond .ne 17, 3) := by decide +kernel
theorem dX7_may_33 : decode cX7_may 33 = .ok (.aload_n 0, 1) := by decide +kernel
theorem dX7_may_34 : decode cX7_may 34 = .ok (.iload_n 3, 1) := by decide +kernel
theorem dX7_may_35 : decode cX7_may 35 = .ok (.aload_n 0, 1) := by decide +kernel
theorem dX7_may_36 : decode cX7_may 36 = .ok (.getfield 28, 3) := by decide +kernel
theorem dX7_may_39 : decode cX7_may 39 = .ok (.iconst 5, 1) := by decide +kernel
theorem dX7_may_40 : decode cX7_may 40 = .ok (.iaload, 1) := by decide +kernel
theorem dX7_may_41 : decode cX7_may 41 = .ok (.invokevirtual 217, 3) := by decide +kernel
theorem dX7_may_44 : decode cX7_may 44 = .ok (.goto 14, 3) := by decide +kernel
theorem dX7_may_47 : decode cX7_may 47 = .ok (.aload_n 0, 1) := by decide +kernel
theorem dX7_may_48 : decode cX7_may 48 = .ok (.aload_n 0, 1) := by decide +kernel
theorem dX7_may_49 : decode cX7_may 49 = .ok (.getfield 28, 3) := by decide +kernel
theorem dX7_may_52 : decode cX7_may 52 = .ok (.iconst 4, 1) := by decide +kernel
theorem dX7_may_53 : decode cX7_may 53 = .ok (.iaload, 1) := by decide +kernel
theorem dX7_may_54 : decode cX7_may 54 = .ok (.iload_n 3, 1) := by decide +kernel
theorem dX7_may_55 : decode cX7_may 55 = .ok (.invokevirtual 217, 3) := by decide +kernel
theorem dX7_may_58 : decode cX7_may 58 = .ok (.istore 4, 2) := by decide +kernel
theorem dX7_may_60 : decode cX7_may 60 = .ok (.iload_n 2, 1) := by decide +kernel
theorem dX7_may_61 : decode cX7_may 61 = .ok (.iload 4, 2) := by decide +kernel
theorem dX7_may_63 : decode cX7_may 63 = .ok (.ifCond .eq 9, 3) := by decide +kernel
theorem dX7_may_66 : decode cX7_may 66 = .ok (.iconst 1, 1) := by decide +kernel
theorem dX7_may_67 : decode cX7_may 67 = .ok (.iload_n 3, 1) := by decide +kernel
theorem dX7_may_68 : decode cX7_may 68 = .ok (.ishl, 1) := by decide +kernel
theorem dX7_may_69 : decode cX7_may 69 = .ok (.goto 4, 3) := by decide +kernel
theorem dX7_may_72 : decode cX7_may 72 = .ok (.iconst 0, 1) := by decide +kernel
theorem dX7_may_73 : decode cX7_may 73 = .ok (.ior, 1) := by decide +kernel
theorem dX7_may_74 : decode cX7_may 74 = .ok (.istore_n 2, 1) := by decide +kernel
theorem dX7_may_75 : decode cX7_may 75 = .ok (.iinc 3 1, 3) := by decide +kernel
theorem dX7_may_78 : decode cX7_may 78 = .ok (.goto (-63), 3) := by decide +kernel
theorem dX7_may_81 : decode cX7_may 81 = .ok (.iload_n 2, 1) := by decide +kernel
theorem dX7_may_82 : decode cX7_may 82 = .ok (.ireturn, 1) := by decide +kernel
theorem dX7_hall_0 : decode cX7_hall 0 = .ok (.iload_n 1, 1) := by decide +kernel
theorem dX7_hall_1 : decode cX7_hall 1 = .ok (.iconst 1, 1) := by decide +kernel
theorem dX7_hall_2 : decode cX7_hall 2 = .ok (.bipush 6, 2) := by decide +kernel
theorem dX7_hall_4 : decode cX7_hall 4 = .ok (.invokestatic 63, 3) := by decide +kernel
theorem dX7_hall_7 : decode cX7_hall 7 = .ok (.ifCond .eq 13, 3) := by decide +kernel
theorem dX7_hall_10 : decode cX7_hall 10 = .ok (.iload_n 2, 1) := by decide +kernel
theorem dX7_hall_11 : decode cX7_hall 11 = .ok (.iconst 1, 1) := by decide +kernel
theorem dX7_hall_12 : decode cX7_hall 12 = .ok (.bipush 40, 2) := by decide +kernel
theorem dX7_hall_14 : decode cX7_hall 14 = .ok (.invokestatic 63, 3) := by decide +kernel
theorem dX7_hall_17 : decode cX7_hall 17 = .ok (.ifCond .ne 5, 3) := by decide +kernel
theorem dX7_hall_20 : decode cX7_hall 20 = .ok (.iconst (-1), 1) := by decide +kernel
theorem dX7_hall_21 : decode cX7_hall 21 = .ok (.ireturn, 1) := by decide +kernel
theorem dX7_hall_22 : decode cX7_hall 22 = .ok (.iconst 0, 1) := by decide +kernel
theorem dX7_hall_23 : decode cX7_hall 23 = .ok (.istore_n 3, 1) := by decide +kernel
theorem dX7_hall_24 : decode cX7_hall 24 = .ok (.iload_n 3, 1) := by decide +kernel
theorem dX7_hall_25 : decode cX7_hall 25 = .ok (.aload_n 0, 1) := by decide +kernel
theorem dX7_hall_26 : decode cX7_hall 26 = .ok (.getfield 31, 3) := by decide +kernel
theorem dX7_hall_29 : decode cX7_hall 29 = .ok (.iconst 0, 1) := by decide +kernel
theorem dX7_hall_30 : decode cX7_hall 30 = .ok (.iaload, 1) := by decide +kernel
theorem dX7_hall_31 : decode cX7_hall 31 = .ok (.if_icmp .ge 43, 3) := by decide +kernel
theorem dX7_hall_34 : decode cX7_hall 34 = .ok (.aload_n 0, 1) := by decide +kernel
theorem dX7_hall_35 : decode cX7_hall 35 = .ok (.getfield 28, 3) := by decide +kernel
theorem dX7_hall_38 : decode cX7_hall 38 = .ok (.iconst 0, 1) := by decide +kernel
theorem dX7_hall_39 : decode cX7_hall 39 = .ok (.iaload, 1) := by decide +kernel
theorem dX7_hall_40 : decode cX7_hall 40 = .ok (.aload_n 0, 1) := by decide +kernel
theorem dX7_hall_41 : decode cX7_hall 41 = .ok (.getfield 31, 3) := by decide +kernel
theorem dX7_hall_44 : decode cX7_hall 44 = .ok (.iconst 1, 1) := by decide +kernel
theorem dX7_hall_45 : decode cX7_hall 45 = .ok (.iload_n 3, 1) := by decide +kernel
theorem dX7_hall_46 : decode cX7_hall 46 = .ok (.iadd, 1) := by decide +kernel
theorem dX7_hall_47 : decode cX7_hall 47 = .ok (.iaload, 1) := by decide +kernel
theorem dX7_hall_48 : decode cX7_hall 48 = .ok (.isub, 1) := by decide +kernel
theorem dX7_hall_49 : decode cX7_hall 49 = .ok (.iload_n 1, 1) := by decide +kernel
theorem dX7_hall_50 : decode cX7_hall 50 = .ok (.if_icmp .lt 18, 3) := by decide +kernel
theorem dX7_hall_53 : decode cX7_hall 53 = .ok (.aload_n 0, 1) := by decide +kernel
theorem dX7_hall_54 : decode cX7_hall 54 = .ok (.getfield 31, 3) := by decide +kernel
theorem dX7_hall_57 : decode cX7_hall 57 = .ok (.bipush 13, 2) := by decide +kernel
theorem dX7_hall_59 : decode cX7_hall 59 = .ok (.iload_n 3, 1) := by decide +kernel
theorem dX7_hall_60 : decode cX7_hall 60 = .ok (.iadd, 1) := by decide +kernel
theorem dX7_hall_61 : decode cX7_hall 61 = .ok (.iaload, 1) := by decide +kernel
theorem dX7_hall_62 : decode cX7_hall 62 = .ok (.iload_n 2, 1) := by decide +kernel
theorem dX7_hall_63 : decode cX7_hall 63 = .ok (.if_icmp .lt 5, 3) := by decide +kernel
theorem dX7_hall_66 : decode cX7_hall 66 = .ok (.iconst 1, 1) := by decide +kernel
theorem dX7_hall_67 : decode cX7_hall 67 = .ok (.ireturn, 1) := by decide +kernel
theorem dX7_hall_68 : decode cX7_hall 68 = .ok (.iinc 3 1, 3) := by decide +kernel
theorem dX7_hall_71 : decode cX7_hall 71 = .ok (.goto (-47), 3) := by decide +kernel
theorem dX7_hall_74 : decode cX7_hall 74 = .ok (.aload_n 0, 1) := by decide +kernel
theorem dX7_hall_75 : decode cX7_hall 75 = .ok (.getfield 28, 3) := by decide +kernel
theorem dX7_hall_78 : decode cX7_hall 78 = .ok (.iconst 0, 1) := by decide +kernel
theorem dX7_hall_79 : decode cX7_hall 79 = .ok (.iaload, 1) := by decide +kernel
theorem dX7_hall_80 : decode cX7_hall 80 = .ok (.iload_n 1, 1) := by decide +kernel
theorem dX7_hall_81 : decode cX7_hall 81 = .ok (.if_icmp .lt 19, 3) := by decide +kernel
theorem dX7_hall_84 : decode cX7_hall 84 = .ok (.aload_n 0, 1) := by decide +kernel
theorem dX7_hall_85 : decode cX7_hall 85 = .ok (.aload_n 0, 1) := by decide +kernel
theorem dX7_hall_86 : decode cX7_hall 86 = .ok (.getfield 31, 3) := by decide +kernel
theorem dX7_hall_89 : decode cX7_hall 89 = .ok (.invokevirtual 145, 3) := by decide +kernel
theorem dX7_hall_92 : decode cX7_hall 92 = .ok (.iload_n 2, 1) := by decide +kernel
theorem dX7_hall_93 : decode cX7_hall 93 = .ok (.if_icmp .lt 7, 3) := by decide +kernel
theorem dX7_hall_96 : decode cX7_hall 96 = .ok (.iconst 2, 1) := by decide +kernel
theorem dX7_hall_97 : decode cX7_hall 97 = .ok (.goto 4, 3) := by decide +kernel
theorem dX7_hall_100 : decode cX7_hall 100 = .ok (.iconst 0, 1) := by decide +kernel
theorem dX7_hall_101 : decode cX7_hall 101 = .ok (.ireturn, 1) := by decide +kernel
theorem dX7_left_0 : decode cX7_left 0 = .ok (.iload_n 1, 1) := by decide +kernel
theorem dX7_left_1 : decode cX7_left 1 = .ok (.iconst 0, 1) := by decide +kernel
theorem dX7_left_2 : decode cX7_left 2 = .ok (.iconst 1, 1) := by decide +kernel
theorem dX7_left_3 : decode cX7_left 3 = .ok (.invokestatic 63, 3) := by decide +kernel
theorem dX7_left_6 : decode cX7_left 6 = .ok (.ifCond .ne 5, 3) := by decide +kernel
theorem dX7_left_9 : decode cX7_left 9 = .ok (.iconst (-1), 1) := by decide +kernel
theorem dX7_left_10 : decode cX7_left 10 = .ok (.ireturn, 1) := by decide +kernel
theorem dX7_left_11 : decode cX7_left 11 = .ok (.iconst 0, 1) := by decide +kernel
theorem dX7_left_12 : decode cX7_left 12 = .ok (.istore_n 2, 1) := by decide +kernel
theorem dX7_left_13 : decode cX7_left 13 = .ok (.iconst 0, 1) := by decide +kernel
theorem dX7_left_14 : decode cX7_left 14 = .ok (.istore_n 3, 1) := by decide +kernel
theorem dX7_left_15 : decode cX7_left 15 = .ok (.iload_n 3, 1) := by decide +kernel
theorem dX7_left_16 : decode cX7_left 16 = .ok (.aload_n 0, 1) := by decide +kernel
theorem dX7_left_17 : decode cX7_left 17 = .ok (.getfield 31, 3) := by decide +kernel
theorem dX7_left_20 : decode cX7_left 20 = .ok (.iconst 0, 1) := by decide +kernel
theorem dX7_left_21 : decode cX7_left 21 = .ok (.iaload, 1) := by decide +kernel
theorem dX7_left_22 : decode cX7_left 22 = .ok (.if_icmp .ge 37, 3) := by decide +kernel
theorem dX7_left_25 : decode cX7_left 25 = .ok (.iload_n 2, 1) := by decide +kernel
theorem dX7_left_26 : decode cX7_left 26 = .ok (.aload_n 0, 1) := by decide +kernel
theorem dX7_left_27 : decode cX7_left 27 = .ok (.getfield 28, 3) := by decide +kernel
theorem dX7_left_30 : decode cX7_left 30 = .ok (.iconst 0, 1) := by decide +kernel
theorem dX7_left_31 : decode cX7_left 31 = .ok (.iaload, 1) := by decide +kernel
theorem dX7_left_32 : decode cX7_left 32 = .ok (.aload_n 0, 1) := by decide +kernel
theorem dX7_left_33 : decode cX7_left 33 = .ok (.getfield 31, 3) := by decide +kernel
theorem dX7_left_36 : decode cX7_left 36 = .ok (.iconst 1, 1) := by decide +kernel
theorem dX7_left_37 : decode cX7_left 37 = .ok (.iload_n 3, 1) := by decide +kernel
theorem dX7_left_38 : decode cX7_left 38 = .ok (.iadd, 1) := by decide +kernel
theorem dX7_left_39 : decode cX7_left 39 = .ok (.iaload, 1) := by decide +kernel
theorem dX7_left_40 : decode cX7_left 40 = .ok (.isub, 1) := by decide +kernel
theorem dX7_left_41 : decode cX7_left 41 = .ok (.aload_n 0, 1) := by decide +kernel
theorem dX7_left_42 : decode cX7_left 42 = .ok (.getfield 31, 3) := by decide +kernel
theorem dX7_left_45 : decode cX7_left 45 = .ok (.bipush 13, 2) := by decide +kernel
theorem dX7_left_47 : decode cX7_left 47 = .ok (.iload_n 3, 1) := by decide +kernel
theorem dX7_left_48 : decode cX7_left 48 = .ok (.iadd, 1) := by decide +kernel
theorem dX7_left_49 : decode cX7_left 49 = .ok (.iaload, 1) := by decide +kernel
theorem dX7_left_50 : decode cX7_left 50 = .ok (.imul, 1) := by decide +kernel
theorem dX7_left_51 : decode cX7_left 51 = .ok (.iadd, 1) := by decide +kernel
theorem dX7_left_52 : decode cX7_left 52 = .ok (.istore_n 2, 1) := by decide +kernel
theorem dX7_left_53 : decode cX7_left 53 = .ok (.iinc 3 1, 3) := by decide +kernel
theorem dX7_left_56 : decode cX7_left 56 = .ok (.goto (-41), 3) := by decide +kernel
theorem dX7_left_59 : decode cX7_left 59 = .ok (.iload_n 1, 1) := by decide +kernel
theorem dX7_left_60 : decode cX7_left 60 = .ok (.ifCond .ne 7, 3) := by decide +kernel
theorem dX7_left_63 : decode cX7_left 63 = .ok (.iload_n 2, 1) := by decide +kernel
theorem dX7_left_64 : decode cX7_left 64 = .ok (.goto 18, 3) := by decide +kernel
theorem dX7_left_67 : decode cX7_left 67 = .ok (.aload_n 0, 1) := by decide +kernel
theorem dX7_left_68 : decode cX7_left 68 = .ok (.getfield 28, 3) := by decide +kernel
theorem dX7_left_71 : decode cX7_left 71 = .ok (.iconst 0, 1) := by decide +kernel
theorem dX7_left_72 : decode cX7_left 72 = .ok (.iaload, 1) := by decide +kernel
theorem dX7_left_73 : decode cX7_left 73 = .ok (.aload_n 0, 1) := by decide +kernel
theorem dX7_left_74 : decode cX7_left 74 = .ok (.aload_n 0, 1) := by decide +kernel
theorem dX7_left_75 : decode cX7_left 75 = .ok (.getfield 31, 3) := by decide +kernel
theorem dX7_left_78 : decode cX7_left 78 = .ok (.invokevirtual 145, 3) := by decide +kernel
theorem dX7_left_81 : decode cX7_left 81 = .ok (.imul, 1) := by decide +kernel
theorem dX7_left_82 : decode cX7_left 82 = .ok (.ireturn, 1) := by decide +kernel
theorem dX7_likely_0 : decode cX7_likely 0 = .ok (.iload_n 1, 1) := by decide +kernel
theorem dX7_likely_1 : decode cX7_likely 1 = .ok (.iconst 0, 1) := by decide +kernel
theorem dX7_likely_2 : decode cX7_likely 2 = .ok (.iconst 3, 1) := by decide +kernel
theorem dX7_likely_3 : decode cX7_likely 3 = .ok (.invokestatic 63, 3) := by decide +kernel
theorem dX7_likely_6 : decode cX7_likely 6 = .ok (.ifCond .eq 33, 3) := by decide +kernel
theorem dX7_likely_9 : decode cX7_likely 9 = .ok (.iload_n 2, 1) := by decide +kernel
theorem dX7_likely_10 : decode cX7_likely 10 = .ok (.iconst 0, 1) := by decide +kernel
theorem dX7_likely_11 : decode cX7_likely 11 = .ok (.bipush 6, 2) := by decide +kernel
theorem dX7_likely_13 : decode cX7_likely 13 = .ok (.invokestatic 63, 3) := by decide +kernel
theorem dX7_likely_16 : decode cX7_likely 16 = .ok (.ifCond .eq 23, 3) := by decide +kernel
theorem dX7_likely_19 : decode cX7_likely 19 = .ok (.iload_n 3, 1) := by decide +kernel
theorem dX7_likely_20 : decode cX7_likely 20 = .ok (.iconst 0, 1) := by decide +kernel
theorem dX7_likely_21 : decode cX7_likely 21 = .ok (.bipush 10, 2) := by decide +kernel
theorem dX7_likely_23 : decode cX7_likely 23 = .ok (.invokestatic 63, 3) := by decide +kernel
theorem dX7_likely_26 : decode cX7_likely 26 = .ok (.ifCond .eq 13, 3) := by decide +kernel
theorem dX7_likely_29 : decode cX7_likely 29 = .ok (.iload 4, 2) := by decide +kernel
theorem dX7_likely_31 : decode cX7_likely 31 = .ok (.iconst 0, 1) := by decide +kernel
theorem dX7_likely_32 : decode cX7_likely 32 = .ok (.iconst 1, 1) := by decide +kernel
theorem dX7_likely_33 : decode cX7_likely 33 = .ok (.invokestatic 63, 3) := by decide +kernel
theorem dX7_likely_36 : decode cX7_likely 36 = .ok (.ifCond .ne 5, 3) := by decide +kernel
theorem dX7_likely_39 : decode cX7_likely 39 = .ok (.iconst (-1), 1) := by decide +kernel
theorem dX7_likely_40 : decode cX7_likely 40 = .ok (.ireturn, 1) := by decide +kernel
theorem dX7_likely_41 : decode cX7_likely 41 = .ok (.aload_n 0, 1) := by decide +kernel
theorem dX7_likely_42 : decode cX7_likely 42 = .ok (.getfield 31, 3) := by decide +kernel
theorem dX7_likely_45 : decode cX7_likely 45 = .ok (.iload_n 1, 1) := by decide +kernel
theorem dX7_likely_46 : decode cX7_likely 46 = .ok (.invokestatic 130, 3) := by decide +kernel
theorem dX7_likely_49 : decode cX7_likely 49 = .ok (.ifCond .ne 6, 3) := by decide +kernel
theorem dX7_likely_52 : decode cX7_likely 52 = .ok (.bipush (-2), 2) := by decide +kernel
theorem dX7_likely_54 : decode cX7_likely 54 = .ok (.ireturn, 1) := by decide +kernel
theorem dX7_likely_55 : decode cX7_likely 55 = .ok (.iconst 0, 1) := by decide +kernel
theorem dX7_likely_56 : decode cX7_likely 56 = .ok (.istore 5, 2) := by decide +kernel
theorem dX7_likely_58 : decode cX7_likely 58 = .ok (.iconst 1, 1) := by decide +kernel
theorem dX7_likely_59 : decode cX7_likely 59 = .ok (.istore 6, 2) := by decide +kernel
theorem dX7_likely_61 : decode cX7_likely 61 = .ok (.iconst 0, 1) := by decide +kernel
theorem dX7_likely_62 : decode cX7_likely 62 = .ok (.istore 7, 2) := by decide +kernel
theorem dX7_likely_64 : decode cX7_likely 64 = .ok (.iload 7, 2) := by decide +kernel
theorem dX7_likely_66 : decode cX7_likely 66 = .ok (.iload_n 2, 1) := by decide +kernel
theorem dX7_likely_67 : decode cX7_likely 67 = .ok (.if_icmp .ge 16, 3) := by decide +kernel
theorem dX7_likely_70 : decode cX7_likely 70 = .ok (.iload 6, 2) := by decide +kernel
theorem dX7_likely_72 : decode cX7_likely 72 = .ok (.bipush 10, 2) := by decide +kernel
theorem dX7_likely_74 : decode cX7_likely 74 = .ok (.imul, 1) := by decide +kernel
theorem dX7_likely_75 : decode cX7_likely 75 = .ok (.istore 6, 2) := by decide +kernel
theorem dX7_likely_77 : decode cX7_likely 77 = .ok (.iinc 7 1, 3) := by decide +kernel
theorem dX7_likely_80 : decode cX7_likely 80 = .ok (.goto (-16), 3) := by decide +kernel
theorem dX7_likely_83 : decode cX7_likely 83 = .ok (.iconst 0, 1) := by decide +kernel
theorem dX7_likely_84 : decode cX7_likely 84 = .ok (.istore 7, 2) := by decide +kernel
theorem dX7_likely_86 : decode cX7_likely 86 = .ok (.iload 7, 2) := by decide +kernel
theorem dX7_likely_88 : decode cX7_likely 88 = .ok (.iconst 1, 1) := by decide +kernel
theorem dX7_likely_89 : decode cX7_likely 89 = .ok (.iload_n 2, 1) := by decide +kernel
theorem dX7_likely_90 : decode cX7_likely 90 = .ok (.ishl, 1) := by decide +kernel
theorem dX7_likely_91 : decode cX7_likely 91 = .ok (.if_icmp .ge 98, 3) := by decide +kernel
theorem dX7_likely_94 : decode cX7_likely 94 = .ok (.iconst 1, 1) := by decide +kernel
theorem dX7_likely_95 : decode cX7_likely 95 = .ok (.istore 8, 2) := by decide +kernel
theorem dX7_likely_97 : decode cX7_likely 97 = .ok (.aload_n 0, 1) := by decide +kernel
theorem dX7_likely_98 : decode cX7_likely 98 = .ok (.getfield 31, 3) := by decide +kernel
theorem dX7_likely_101 : decode cX7_likely 101 = .ok (.bipush 25, 2) := by decide +kernel
theorem dX7_likely_103 : decode cX7_likely 103 = .ok (.iload_n 1, 1) := by decide +kernel
theorem dX7_likely_104 : decode cX7_likely 104 = .ok (.iadd, 1) := by decide +kernel
theorem dX7_likely_105 : decode cX7_likely 105 = .ok (.iaload, 1) := by decide +kernel
theorem dX7_likely_106 : decode cX7_likely 106 = .ok (.istore 9, 2) := by decide +kernel
theorem dX7_likely_108 : decode cX7_likely 108 = .ok (.iconst 0, 1) := by decide +kernel
theorem dX7_likely_109 : decode cX7_likely 109 = .ok (.istore 10, 2) := by decide +kernel
theorem dX7_likely_111 : decode cX7_likely 111 = .ok (.iload 10, 2) := by decide +kernel
theorem dX7_likely_113 : decode cX7_likely 113 = .ok (.iload_n 2, 1) := by decide +kernel
theorem dX7_likely_114 : decode cX7_likely 114 = .ok (.if_icmp .ge 52, 3) := by decide +kernel
theorem dX7_likely_117 : decode cX7_likely 117 = .ok (.iload 8, 2) := by decide +kernel
theorem dX7_likely_119 : decode cX7_likely 119 = .ok (.iload 7, 2) := by decide +kernel
theorem dX7_likely_121 : decode cX7_likely 121 = .ok (.iload 10, 2) := by decide +kernel
theorem dX7_likely_123 : decode cX7_likely 123 = .ok (.invokestatic 126, 3) := by decide +kernel
theorem dX7_likely_126 : decode cX7_likely 126 = .ok (.ifCond .eq 7, 3) := by decide +kernel
theorem dX7_likely_129 : decode cX7_likely 129 = .ok (.iload_n 3, 1) := by decide +kernel
theorem dX7_likely_130 : decode cX7_likely 130 = .ok (.goto 7, 3) := by decide +kernel
theorem dX7_likely_133 : decode cX7_likely 133 = .ok (.bipush 10, 2) := by decide +kernel
theorem dX7_likely_135 : decode cX7_likely 135 = .ok (.iload_n 3, 1) := by decide +kernel
theorem dX7_likely_136 : decode cX7_likely 136 = .ok (.isub, 1) := by decide +kernel
theorem dX7_likely_137 : decode cX7_likely 137 = .ok (.imul, 1) := by decide +kernel
theorem dX7_likely_138 : decode cX7_likely 138 = .ok (.istore 8, 2) := by decide +kernel
theorem dX7_likely_140 : decode cX7_likely 140 = .ok (.iload 9, 2) := by decide +kernel
theorem dX7_likely_142 : decode cX7_likely 142 = .ok (.iload 7, 2) := by decide +kernel
theorem dX7_likely_144 : decode cX7_likely 144 = .ok (.iload 10, 2) := by decide +kernel
theorem dX7_likely_146 : decode cX7_likely 146 = .ok (.invokestatic 126, 3) := by decide +kernel
theorem dX7_likely_149 : decode cX7_likely 149 = .ok (.ifCond .eq 7, 3) := by decide +kernel
theorem dX7_likely_152 : decode cX7_likely 152 = .ok (.iconst 2, 1) := by decide +kernel
theorem dX7_likely_153 : decode cX7_likely 153 = .ok (.goto 4, 3) := by decide +kernel
theorem dX7_likely_156 : decode cX7_likely 156 = .ok (.iconst 0, 1) := by decide +kernel
theorem dX7_likely_157 : decode cX7_likely 157 = .ok (.isub, 1) := by decide +kernel
theorem dX7_likely_158 : decode cX7_likely 158 = .ok (.istore 9, 2) := by decide +kernel
theorem dX7_likely_160 : decode cX7_likely 160 = .ok (.iinc 10 1, 3) := by decide +kernel
theorem dX7_likely_163 : decode cX7_likely 163 = .ok (.goto (-52), 3) := by decide +kernel
theorem dX7_likely_166 : decode cX7_likely 166 = .ok (.iload 5, 2) := by decide +kernel
theorem dX7_likely_168 : decode cX7_likely 168 = .ok (.iload 9, 2) := by decide +kernel
theorem dX7_likely_170 : decode cX7_likely 170 = .ok (.iconst 2, 1) := by decide +kernel
theorem dX7_likely_171 : decode cX7_likely 171 = .ok (.if_icmp .ge 8, 3) := by decide +kernel
theorem dX7_likely_174 : decode cX7_likely 174 = .ok (.iload 8, 2) := by decide +kernel
theorem dX7_likely_176 : decode cX7_likely 176 = .ok (.goto 4, 3) := by decide +kernel
theorem dX7_likely_179 : decode cX7_likely 179 = .ok (.iconst 0, 1) := by decide +kernel
theorem dX7_likely_180 : decode cX7_likely 180 = .ok (.iadd, 1) := by decide +kernel
theorem dX7_likely_181 : decode cX7_likely 181 = .ok (.istore 5, 2) := by decide +kernel
theorem dX7_likely_183 : decode cX7_likely 183 = .ok (.iinc 7 1, 3) := by decide +kernel
theorem dX7_likely_186 : decode cX7_likely 186 = .ok (.goto (-100), 3) := by decide +kernel
theorem dX7_likely_189 : decode cX7_likely 189 = .ok (.iload 5, 2) := by decide +kernel
theorem dX7_likely_191 : decode cX7_likely 191 = .ok (.istore 7, 2) := by decide +kernel
theorem dX7_likely_193 : decode cX7_likely 193 = .ok (.iload 6, 2) := by decide +kernel
theorem dX7_likely_195 : decode cX7_likely 195 = .ok (.istore 8, 2) := by decide +kernel
theorem dX7_likely_197 : decode cX7_likely 197 = .ok (.iload 8, 2) := by decide +kernel
theorem dX7_likely_199 : decode cX7_likely 199 = .ok (.ifCond .le 21, 3) := by decide +kernel
theorem dX7_likely_202 : decode cX7_likely 202 = .ok (.iload 7, 2) := by decide +kernel
theorem dX7_likely_204 : decode cX7_likely 204 = .ok (.iload 8, 2) := by decide +kernel
theorem dX7_likely_206 : decode cX7_likely 206 = .ok (.irem, 1) := by decide +kernel
theorem dX7_likely_207 : decode cX7_likely 207 = .ok (.istore 9, 2) := by decide +kernel
theorem dX7_likely_209 : decode cX7_likely 209 = .ok (.iload 8, 2) := by decide +kernel
theorem dX7_likely_211 : decode cX7_likely 211 = .ok (.istore 7, 2) := by decide +kernel
theorem dX7_likely_213 : decode cX7_likely 213 = .ok (.iload 9, 2) := by decide +kernel
theorem dX7_likely_215 : decode cX7_likely 215 = .ok (.istore 8, 2) := by decide +kernel
theorem dX7_likely_217 : decode cX7_likely 217 = .ok (.goto (-20), 3) := by decide +kernel
theorem dX7_likely_220 : decode cX7_likely 220 = .ok (.iload 4, 2) := by decide +kernel
theorem dX7_likely_222 : decode cX7_likely 222 = .ok (.ifCond .ne 8, 3) := by decide +kernel
theorem dX7_likely_225 : decode cX7_likely 225 = .ok (.iload 5, 2) := by decide +kernel
theorem dX7_likely_227 : decode cX7_likely 227 = .ok (.goto 5, 3) := by decide +kernel
theorem dX7_likely_230 : decode cX7_likely 230 = .ok (.iload 6, 2) := by decide +kernel
theorem dX7_likely_232 : decode cX7_likely 232 = .ok (.iload 7, 2) := by decide +kernel
theorem dX7_likely_234 : decode cX7_likely 234 = .ok (.idiv, 1) := by decide +kernel
theorem dX7_likely_235 : decode cX7_likely 235 = .ok (.ireturn, 1) := by decide +kernel
theorem dX7_year_0 : decode cX7_year 0 = .ok (.iload_n 1, 1) := by decide +kernel
theorem dX7_year_1 : decode cX7_year 1 = .ok (.iconst 0, 1) := by decide +kernel
theorem dX7_year_2 : decode cX7_year 2 = .ok (.sipush 9999, 3) := by decide +kernel
theorem dX7_year_5 : decode cX7_year 5 = .ok (.invokestatic 63, 3) := by decide +kernel
theorem dX7_year_8 : decode cX7_year 8 = .ok (.ifCond .eq 22, 3) := by decide +kernel
theorem dX7_year_11 : decode cX7_year 11 = .ok (.iload_n 2, 1) := by decide +kernel
theorem dX7_year_12 : decode cX7_year 12 = .ok (.iconst 1, 1) := by decide +kernel
theorem dX7_year_13 : decode cX7_year 13 = .ok (.bipush 40, 2) := by decide +kernel
theorem dX7_year_15 : decode cX7_year 15 = .ok (.invokestatic 63, 3) := by decide +kernel
theorem dX7_year_18 : decode cX7_year 18 = .ok (.ifCond .eq 12, 3) := by decide +kernel
theorem dX7_year_21 : decode cX7_year 21 = .ok (.iload_n 3, 1) := by decide +kernel
theorem dX7_year_22 : decode cX7_year 22 = .ok (.iconst 0, 1) := by decide +kernel
theorem dX7_year_23 : decode cX7_year 23 = .ok (.iconst 1, 1) := by decide +kernel
theorem dX7_year_24 : decode cX7_year 24 = .ok (.invokestatic 63, 3) := by decide +kernel
theorem dX7_year_27 : decode cX7_year 27 = .ok (.ifCond .ne 5, 3) := by decide +kernel
theorem dX7_year_30 : decode cX7_year 30 = .ok (.iconst (-1), 1) := by decide +kernel
theorem dX7_year_31 : decode cX7_year 31 = .ok (.ireturn, 1) := by decide +kernel
theorem dX7_year_32 : decode cX7_year 32 = .ok (.aload_n 0, 1) := by decide +kernel
theorem dX7_year_33 : decode cX7_year 33 = .ok (.invokevirtual 162, 3) := by decide +kernel
theorem dX7_year_36 : decode cX7_year 36 = .ok (.ifCond .ne 6, 3) := by decide +kernel
theorem dX7_year_39 : decode cX7_year 39 = .ok (.bipush (-2), 2) := by decide +kernel
theorem dX7_year_41 : decode cX7_year 41 = .ok (.ireturn, 1) := by decide +kernel
theorem dX7_year_42 : decode cX7_year 42 = .ok (.aload_n 0, 1) := by decide +kernel
theorem dX7_year_43 : decode cX7_year 43 = .ok (.invokevirtual 205, 3) := by decide +kernel
theorem dX7_year_46 : decode cX7_year 46 = .ok (.iconst 0, 1) := by decide +kernel
theorem dX7_year_47 : decode cX7_year 47 = .ok (.istore 4, 2) := by decide +kernel
theorem dX7_year_49 : decode cX7_year 49 = .ok (.iload 4, 2) := by decide +kernel
theorem dX7_year_51 : decode cX7_year 51 = .ok (.iload_n 2, 1) := by decide +kernel
theorem dX7_year_52 : decode cX7_year 52 = .ok (.if_icmp .ge 131, 3) := by decide +kernel
theorem dX7_year_55 : decode cX7_year 55 = .ok (.ldc2_w 220, 3) := by decide +kernel
theorem dX7_year_58 : decode cX7_year 58 = .ok (.iload_n 1, 1) := by decide +kernel
theorem dX7_year_59 : decode cX7_year 59 = .ok (.i2l, 1) := by decide +kernel
theorem dX7_year_60 : decode cX7_year 60 = .ok (.lmul, 1) := by decide +kernel
theorem dX7_year_61 : decode cX7_year 61 = .ok (.ldc2_w 222, 3) := by decide +kernel
theorem dX7_year_64 : decode cX7_year 64 = .ok (.iload 4, 2) := by decide +kernel
theorem dX7_year_66 : decode cX7_year 66 = .ok (.i2l, 1) := by decide +kernel
theorem dX7_year_67 : decode cX7_year 67 = .ok (.lmul, 1) := by decide +kernel
theorem dX7_year_68 : decode cX7_year 68 = .ok (.ladd, 1) := by decide +kernel
theorem dX7_year_69 : decode cX7_year 69 = .ok (.lconst 1, 1) := by decide +kernel
theorem dX7_year_70 : decode cX7_year 70 = .ok (.ladd, 1) := by decide +kernel
theorem dX7_year_71 : decode cX7_year 71 = .ok (.lstore 5, 2) := by decide +kernel
theorem dX7_year_73 : decode cX7_year 73 = .ok (.lload 5, 2) := by decide +kernel
theorem dX7_year_75 : decode cX7_year 75 = .ok (.lload 5, 2) := by decide +kernel
theorem dX7_year_77 : decode cX7_year 77 = .ok (.lmul, 1) := by decide +kernel
theorem dX7_year_78 : decode cX7_year 78 = .ok (.ldc2_w 224, 3) := by decide +kernel
theorem dX7_year_81 : decode cX7_year 81 = .ok (.lrem, 1) := by decide +kernel
theorem dX7_year_82 : decode cX7_year 82 = .ok (.ldc2_w 226, 3) := by decide +kernel
theorem dX7_year_85 : decode cX7_year 85 = .ok (.ldiv, 1) := by decide +kernel
theorem dX7_year_86 : decode cX7_year 86 = .ok (.l2i, 1) := by decide +kernel
theorem dX7_year_87 : decode cX7_year 87 = .ok (.istore 7, 2) := by decide +kernel
theorem dX7_year_89 : decode cX7_year 89 = .ok (.iload 7, 2) := by decide +kernel
theorem dX7_year_91 : decode cX7_year 91 = .ok (.iconst 4, 1) := by decide +kernel
theorem dX7_year_92 : decode cX7_year 92 = .ok (.irem, 1) := by decide +kernel
theorem dX7_year_93 : decode cX7_year 93 = .ok (.istore 8, 2) := by decide +kernel
theorem dX7_year_95 : decode cX7_year 95 = .ok (.aload_n 0, 1) := by decide +kernel
theorem dX7_year_96 : decode cX7_year 96 = .ok (.getfield 34, 3) := by decide +kernel
theorem dX7_year_99 : decode cX7_year 99 = .ok (.iload 8, 2) := by decide +kernel
theorem dX7_year_101 : decode cX7_year 101 = .ok (.invokestatic 130, 3) := by decide +kernel
theorem dX7_year_104 : decode cX7_year 104 = .ok (.ifCond .eq 24, 3) := by decide +kernel
theorem dX7_year_107 : decode cX7_year 107 = .ok (.iload 7, 2) := by decide +kernel
theorem dX7_year_109 : decode cX7_year 109 = .ok (.iconst 4, 1) := by decide +kernel
theorem dX7_year_110 : decode cX7_year 110 = .ok (.idiv, 1) := by decide +kernel
theorem dX7_year_111 : decode cX7_year 111 = .ok (.iconst 5, 1) := by decide +kernel
theorem dX7_year_112 : decode cX7_year 112 = .ok (.irem, 1) := by decide +kernel
theorem dX7_year_113 : decode cX7_year 113 = .ok (.ifCond .ne 45, 3) := by decide +kernel
theorem dX7_year_116 : decode cX7_year 116 = .ok (.aload_n 0, 1) := by decide +kernel
theorem dX7_year_117 : decode cX7_year 117 = .ok (.getfield 34, 3) := by decide +kernel
theorem dX7_year_120 : decode cX7_year 120 = .ok (.iload 8, 2) := by decide +kernel
theorem dX7_year_122 : decode cX7_year 122 = .ok (.invokestatic 172, 3) := by decide +kernel
theorem dX7_year_125 : decode cX7_year 125 = .ok (.goto 33, 3) := by decide +kernel
theorem dX7_year_128 : decode cX7_year 128 = .ok (.aload_n 0, 1) := by decide +kernel
theorem dX7_year_129 : decode cX7_year 129 = .ok (.getfield 34, 3) := by decide +kernel
theorem dX7_year_132 : decode cX7_year 132 = .ok (.iload 8, 2) := by decide +kernel
theorem dX7_year_134 : decode cX7_year 134 = .ok (.invokestatic 165, 3) := by decide +kernel
theorem dX7_year_137 : decode cX7_year 137 = .ok (.ifCond .eq 21, 3) := by decide +kernel
theorem dX7_year_140 : decode cX7_year 140 = .ok (.aload_n 0, 1) := by decide +kernel
theorem dX7_year_141 : decode cX7_year 141 = .ok (.aload_n 0, 1) := by decide +kernel
theorem dX7_year_142 : decode cX7_year 142 = .ok (.getfield 34, 3) := by decide +kernel
theorem dX7_year_145 : decode cX7_year 145 = .ok (.iload 8, 2) := by decide +kernel
theorem dX7_year_147 : decode cX7_year 147 = .ok (.iload 7, 2) := by decide +kernel
theorem dX7_year_149 : decode cX7_year 149 = .ok (.bipush 32, 2) := by decide +kernel
theorem dX7_year_151 : decode cX7_year 151 = .ok (.idiv, 1) := by decide +kernel
theorem dX7_year_152 : decode cX7_year 152 = .ok (.bipush 16, 2) := by decide +kernel
theorem dX7_year_154 : decode cX7_year 154 = .ok (.irem, 1) := by decide +kernel
theorem dX7_year_155 : decode cX7_year 155 = .ok (.invokevirtual 168, 3) := by decide +kernel
theorem dX7_year_158 : decode cX7_year 158 = .ok (.iload 7, 2) := by decide +kernel
theorem dX7_year_160 : decode cX7_year 160 = .ok (.sipush 512, 3) := by decide +kernel
theorem dX7_year_163 : decode cX7_year 163 = .ok (.idiv, 1) := by decide +kernel
theorem dX7_year_164 : decode cX7_year 164 = .ok (.iconst 3, 1) := by decide +kernel
theorem dX7_year_165 : decode cX7_year 165 = .ok (.irem, 1) := by decide +kernel
theorem dX7_year_166 : decode cX7_year 166 = .ok (.ifCond .ne 11, 3) := by decide +kernel
theorem dX7_year_169 : decode cX7_year 169 = .ok (.aload_n 0, 1) := by decide +kernel
theorem dX7_year_170 : decode cX7_year 170 = .ok (.aload_n 0, 1) := by decide +kernel
theorem dX7_year_171 : decode cX7_year 171 = .ok (.getfield 34, 3) := by decide +kernel
theorem dX7_year_174 : decode cX7_year 174 = .ok (.invokevirtual 176, 3) := by decide +kernel
theorem dX7_year_177 : decode cX7_year 177 = .ok (.iinc 4 1, 3) := by decide +kernel
theorem dX7_year_180 : decode cX7_year 180 = .ok (.goto (-131), 3) := by decide +kernel
theorem dX7_year_183 : decode cX7_year 183 = .ok (.iconst 0, 1) := by decide +kernel
theorem dX7_year_184 : decode cX7_year 184 = .ok (.istore 4, 2) := by decide +kernel
theorem dX7_year_186 : decode cX7_year 186 = .ok (.iconst 0, 1) := by decide +kernel
theorem dX7_year_187 : decode cX7_year 187 = .ok (.istore 5, 2) := by decide +kernel
theorem dX7_year_189 : decode cX7_year 189 = .ok (.iload 5, 2) := by decide +kernel
theorem dX7_year_191 : decode cX7_year 191 = .ok (.iconst 4, 1) := by decide +kernel
theorem dX7_year_192 : decode cX7_year 192 = .ok (.if_icmp .ge 24, 3) := by decide +kernel
theorem dX7_year_195 : decode cX7_year 195 = .ok (.iload 4, 2) := by decide +kernel
theorem dX7_year_197 : decode cX7_year 197 = .ok (.aload_n 0, 1) := by decide +kernel
theorem dX7_year_198 : decode cX7_year 198 = .ok (.getfield 34, 3) := by decide +kernel
theorem dX7_year_201 : decode cX7_year 201 = .ok (.bipush 25, 2) := by decide +kernel
theorem dX7_year_203 : decode cX7_year 203 = .ok (.iload 5, 2) := by decide +kernel
theorem dX7_year_205 : decode cX7_year 205 = .ok (.iadd, 1) := by decide +kernel
theorem dX7_year_206 : decode cX7_year 206 = .ok (.iaload, 1) := by decide +kernel
theorem dX7_year_207 : decode cX7_year 207 = .ok (.iadd, 1) := by decide +kernel
theorem dX7_year_208 : decode cX7_year 208 = .ok (.istore 4, 2) := by decide +kernel
theorem dX7_year_210 : decode cX7_year 210 = .ok (.iinc 5 1, 3) := by decide +kernel
theorem dX7_year_213 : decode cX7_year 213 = .ok (.goto (-24), 3) := by decide +kernel
theorem dX7_year_216 : decode cX7_year 216 = .ok (.iload_n 3, 1) := by decide +kernel
theorem dX7_year_217 : decode cX7_year 217 = .ok (.ifCond .ne 16, 3) := by decide +kernel
theorem dX7_year_220 : decode cX7_year 220 = .ok (.aload_n 0, 1) := by decide +kernel
theorem dX7_year_221 : decode cX7_year 221 = .ok (.getfield 34, 3) := by decide +kernel
theorem dX7_year_224 : decode cX7_year 224 = .ok (.bipush 30, 2) := by decide +kernel
theorem dX7_year_226 : decode cX7_year 226 = .ok (.iaload, 1) := by decide +kernel
theorem dX7_year_227 : decode cX7_year 227 = .ok (.invokestatic 151, 3) := by decide +kernel
theorem dX7_year_230 : decode cX7_year 230 = .ok (.goto 5, 3) := by decide +kernel
theorem dX7_year_233 : decode cX7_year 233 = .ok (.iload 4, 2) := by decide +kernel
theorem dX7_year_235 : decode cX7_year 235 = .ok (.ireturn, 1) := by decide +kernel
theorem dX7_keep_0 : decode cX7_keep 0 = .ok (.aload_n 0, 1) := by decide +kernel
theorem dX7_keep_1 : decode cX7_keep 1 = .ok (.getfield 120, 3) := by decide +kernel
theorem dX7_keep_4 : decode cX7_keep 4 = .ok (.iconst 2, 1) := by decide +kernel
theorem dX7_keep_5 : decode cX7_keep 5 = .ok (.if_icmp .ne 6, 3) := by decide +kernel
theorem dX7_keep_8 : decode cX7_keep 8 = .ok (.bipush (-3), 2) := by decide +kernel
theorem dX7_keep_10 : decode cX7_keep 10 = .ok (.ireturn, 1) := by decide +kernel
theorem dX7_keep_11 : decode cX7_keep 11 = .ok (.aload_n 0, 1) := by decide +kernel
theorem dX7_keep_12 : decode cX7_keep 12 = .ok (.getfield 31, 3) := by decide +kernel
theorem dX7_keep_15 : decode cX7_keep 15 = .ok (.iconst 0, 1) := by decide +kernel
theorem dX7_keep_16 : decode cX7_keep 16 = .ok (.aload_n 0, 1) := by decide +kernel
theorem dX7_keep_17 : decode cX7_keep 17 = .ok (.getfield 40, 3) := by decide +kernel
theorem dX7_keep_20 : decode cX7_keep 20 = .ok (.bipush 32, 2) := by decide +kernel
theorem dX7_keep_22 : decode cX7_keep 22 = .ok (.aload_n 0, 1) := by decide +kernel
theorem dX7_keep_23 : decode cX7_keep 23 = .ok (.getfield 120, 3) := by decide +kernel
theorem dX7_keep_26 : decode cX7_keep 26 = .ok (.imul, 1) := by decide +kernel
theorem dX7_keep_27 : decode cX7_keep 27 = .ok (.bipush 32, 2) := by decide +kernel
theorem dX7_keep_29 : decode cX7_keep 29 = .ok (.invokestatic 110, 3) := by decide +kernel
theorem dX7_keep_32 : decode cX7_keep 32 = .ok (.aload_n 0, 1) := by decide +kernel
theorem dX7_keep_33 : decode cX7_keep 33 = .ok (.dup, 1) := by decide +kernel
theorem dX7_keep_34 : decode cX7_keep 34 = .ok (.getfield 120, 3) := by decide +kernel
theorem dX7_keep_37 : decode cX7_keep 37 = .ok (.iconst 1, 1) := by decide +kernel
theorem dX7_keep_38 : decode cX7_keep 38 = .ok (.iadd, 1) := by decide +kernel
theorem dX7_keep_39 : decode cX7_keep 39 = .ok (.putfield 120, 3) := by decide +kernel
theorem dX7_keep_42 : decode cX7_keep 42 = .ok (.aload_n 0, 1) := by decide +kernel
theorem dX7_keep_43 : decode cX7_keep 43 = .ok (.getfield 120, 3) := by decide +kernel
theorem dX7_keep_46 : decode cX7_keep 46 = .ok (.ireturn, 1) := by decide +kernel
theorem dX7_back_0 : decode cX7_back 0 = .ok (.aload_n 0, 1) := by decide +kernel
theorem dX7_back_1 : decode cX7_back 1 = .ok (.getfield 120, 3) := by decide +kernel
theorem dX7_back_4 : decode cX7_back 4 = .ok (.ifCond .ne 6, 3) := by decide +kernel
theorem dX7_back_7 : decode cX7_back 7 = .ok (.bipush (-2), 2) := by decide +kernel
theorem dX7_back_9 : decode cX7_back 9 = .ok (.ireturn, 1) := by decide +kernel
theorem dX7_back_10 : decode cX7_back 10 = .ok (.aload_n 0, 1) := by decide +kernel
theorem dX7_back_11 : decode cX7_back 11 = .ok (.dup, 1) := by decide +kernel
theorem dX7_back_12 : decode cX7_back 12 = .ok (.getfield 120, 3) := by decide +kernel
theorem dX7_back_15 : decode cX7_back 15 = .ok (.iconst 1, 1) := by decide +kernel
theorem dX7_back_16 : decode cX7_back 16 = .ok (.isub, 1) := by decide +kernel
theorem dX7_back_17 : decode cX7_back 17 = .ok (.putfield 120, 3) := by decide +kernel
theorem dX7_back_20 : decode cX7_back 20 = .ok (.aload_n 0, 1) := by decide +kernel
theorem dX7_back_21 : decode cX7_back 21 = .ok (.getfield 40, 3) := by decide +kernel
theorem dX7_back_24 : decode cX7_back 24 = .ok (.bipush 32, 2) := by decide +kernel
theorem dX7_back_26 : decode cX7_back 26 = .ok (.aload_n 0, 1) := by decide +kernel
theorem dX7_back_27 : decode cX7_back 27 = .ok (.getfield 120, 3) := by decide +kernel
theorem dX7_back_30 : decode cX7_back 30 = .ok (.imul, 1) := by decide +kernel
theorem dX7_back_31 : decode cX7_back 31 = .ok (.aload_n 0, 1) := by decide +kernel
theorem dX7_back_32 : decode cX7_back 32 = .ok (.getfield 31, 3) := by decide +kernel
theorem dX7_back_35 : decode cX7_back 35 = .ok (.iconst 0, 1) := by decide +kernel
theorem dX7_back_36 : decode cX7_back 36 = .ok (.bipush 32, 2) := by decide +kernel
theorem dX7_back_38 : decode cX7_back 38 = .ok (.invokestatic 110, 3) := by decide +kernel
theorem dX7_back_41 : decode cX7_back 41 = .ok (.aload_n 0, 1) := by decide +kernel
theorem dX7_back_42 : decode cX7_back 42 = .ok (.iconst 0, 1) := by decide +kernel
theorem dX7_back_43 : decode cX7_back 43 = .ok (.putfield 117, 3) := by decide +kernel
theorem dX7_back_46 : decode cX7_back 46 = .ok (.aload_n 0, 1) := by decide +kernel
theorem dX7_back_47 : decode cX7_back 47 = .ok (.getfield 120, 3) := by decide +kernel
theorem dX7_back_50 : decode cX7_back 50 = .ok (.ireturn, 1) := by decide +kernel
theorem dX7_count_0 : decode cX7_count 0 = .ok (.iload_n 1, 1) := by decide +kernel
theorem dX7_count_1 : decode cX7_count 1 = .ok (.tableswitch 152 0 10 #[59, 64, 71, 80, 102, 113, 124, 132, 137, 142, 147], 59) := by decide +kernel
theorem dX7_count_60 : decode cX7_count 60 = .ok (.aload_n 0, 1) := by decide +kernel
theorem dX7_count_61 : decode cX7_count 61 = .ok (.getfield 56, 3) := by decide +kernel
theorem dX7_count_64 : decode cX7_count 64 = .ok (.ireturn, 1) := by decide +kernel
theorem dX7_count_65 : decode cX7_count 65 = .ok (.aload_n 0, 1) := by decide +kernel
theorem dX7_count_66 : decode cX7_count 66 = .ok (.getfield 31, 3) := by decide +kernel
theorem dX7_count_69 : decode cX7_count 69 = .ok (.iconst 0, 1) := by decide +kernel
theorem dX7_count_70 : decode cX7_count 70 = .ok (.iaload, 1) := by decide +kernel
theorem dX7_count_71 : decode cX7_count 71 = .ok (.ireturn, 1) := by decide +kernel
theorem dX7_count_72 : decode cX7_count 72 = .ok (.aload_n 0, 1) := by decide +kernel
theorem dX7_count_73 : decode cX7_count 73 = .ok (.aload_n 0, 1) := by decide +kernel
theorem dX7_count_74 : decode cX7_count 74 = .ok (.getfield 31, 3) := by decide +kernel
theorem dX7_count_77 : decode cX7_count 77 = .ok (.invokevirtual 145, 3) := by decide +kernel
theorem dX7_count_80 : decode cX7_count 80 = .ok (.ireturn, 1) := by decide +kernel
theorem dX7_count_81 : decode cX7_count 81 = .ok (.aload_n 0, 1) := by decide +kernel
theorem dX7_count_82 : decode cX7_count 82 = .ok (.getfield 31, 3) := by decide +kernel
theorem dX7_count_85 : decode cX7_count 85 = .ok (.iconst 0, 1) := by decide +kernel
theorem dX7_count_86 : decode cX7_count 86 = .ok (.iaload, 1) := by decide +kernel
theorem dX7_count_87 : decode cX7_count 87 = .ok (.ifCond .le 14, 3) := by decide +kernel
theorem dX7_count_90 : decode cX7_count 90 = .ok (.aload_n 0, 1) := by decide +kernel
theorem dX7_count_91 : decode cX7_count 91 = .ok (.getfield 31, 3) := by decide +kernel
theorem dX7_count_94 : decode cX7_count 94 = .ok (.iconst 0, 1) := by decide +kernel
theorem dX7_count_95 : decode cX7_count 95 = .ok (.iaload, 1) := by decide +kernel
theorem dX7_count_96 : decode cX7_count 96 = .ok (.iconst 1, 1) := by decide +kernel
theorem dX7_count_97 : decode cX7_count 97 = .ok (.isub, 1) := by decide +kernel
theorem dX7_count_98 : decode cX7_count 98 = .ok (.goto 4, 3) := by decide +kernel
theorem dX7_count_101 : decode cX7_count 101 = .ok (.iconst 0, 1) := by decide +kernel
theorem dX7_count_102 : decode cX7_count 102 = .ok (.ireturn, 1) := by decide +kernel
theorem dX7_count_103 : decode cX7_count 103 = .ok (.aload_n 0, 1) := by decide +kernel
theorem dX7_count_104 : decode cX7_count 104 = .ok (.getfield 31, 3) := by decide +kernel
theorem dX7_count_107 : decode cX7_count 107 = .ok (.bipush 29, 2) := by decide +kernel
theorem dX7_count_109 : decode cX7_count 109 = .ok (.iaload, 1) := by decide +kernel
theorem dX7_count_110 : decode cX7_count 110 = .ok (.invokestatic 151, 3) := by decide +kernel
theorem dX7_count_113 : decode cX7_count 113 = .ok (.ireturn, 1) := by decide +kernel
theorem dX7_count_114 : decode cX7_count 114 = .ok (.aload_n 0, 1) := by decide +kernel
theorem dX7_count_115 : decode cX7_count 115 = .ok (.getfield 31, 3) := by decide +kernel
theorem dX7_count_118 : decode cX7_count 118 = .ok (.bipush 30, 2) := by decide +kernel
theorem dX7_count_120 : decode cX7_count 120 = .ok (.iaload, 1) := by decide +kernel
theorem dX7_count_121 : decode cX7_count 121 = .ok (.invokestatic 151, 3) := by decide +kernel
theorem dX7_count_124 : decode cX7_count 124 = .ok (.ireturn, 1) := by decide +kernel
theorem dX7_count_125 : decode cX7_count 125 = .ok (.aload_n 0, 1) := by decide +kernel
theorem dX7_count_126 : decode cX7_count 126 = .ok (.getfield 31, 3) := by decide +kernel
theorem dX7_count_129 : decode cX7_count 129 = .ok (.bipush 31, 2) := by decide +kernel
theorem dX7_count_131 : decode cX7_count 131 = .ok (.iaload, 1) := by decide +kernel
theorem dX7_count_132 : decode cX7_count 132 = .ok (.ireturn, 1) := by decide +kernel
theorem dX7_count_133 : decode cX7_count 133 = .ok (.aload_n 0, 1) := by decide +kernel
theorem dX7_count_134 : decode cX7_count 134 = .ok (.getfield 114, 3) := by decide +kernel
theorem dX7_count_137 : decode cX7_count 137 = .ok (.ireturn, 1) := by decide +kernel
theorem dX7_count_138 : decode cX7_count 138 = .ok (.aload_n 0, 1) := by decide +kernel
theorem dX7_count_139 : decode cX7_count 139 = .ok (.getfield 117, 3) := by decide +kernel
theorem dX7_count_142 : decode cX7_count 142 = .ok (.ireturn, 1) := by decide +kernel
theorem dX7_count_143 : decode cX7_count 143 = .ok (.aload_n 0, 1) := by decide +kernel
theorem dX7_count_144 : decode cX7_count 144 = .ok (.getfield 120, 3) := by decide +kernel
theorem dX7_count_147 : decode cX7_count 147 = .ok (.ireturn, 1) := by decide +kernel
theorem dX7_count_148 : decode cX7_count 148 = .ok (.aload_n 0, 1) := by decide +kernel
theorem dX7_count_149 : decode cX7_count 149 = .ok (.getfield 67, 3) := by decide +kernel
theorem dX7_count_152 : decode cX7_count 152 = .ok (.ireturn, 1) := by decide +kernel
theorem dX7_count_153 : decode cX7_count 153 = .ok (.iconst (-1), 1) := by decide +kernel
theorem dX7_count_154 : decode cX7_count 154 = .ok (.ireturn, 1) := by decide +kernel
end
section
/-! ===== the layer: all objects at once, ints as Int ===== -/
section
abbrev vI (z : Int) : Value := .int (iI z)
abbrev vR (r : Nat) : Value := .ref r
abbrev vL (z : Int) : Value := .long (lI z)
theorem iI_add (a b : Int) : iI a + iI b = iI (a + b) := (Int32.ofInt_add a b).symm
theorem iI_sub (a b : Int) : iI a - iI b = iI (a - b) := (Int32.ofInt_sub a b).symm
theorem iI_mul (a b : Int) : iI a * iI b = iI (a * b) := (Int32.ofInt_mul a b).symm
abbrev sm (z : Int) : Prop := -2147483648 ≤ z ∧ z < 2147483648
theorem iI_toInt {z : Int} (h : sm z) : (iI z).toInt = z := Int32.toInt_ofInt_of_le (by have := h.1; omega) (by have := h.2; omega)
theorem iI_of (x : Int32) : iI x.toInt = x := Int32.ofInt_toInt x
theorem sm_of (x : Int32) : sm x.toInt := ⟨by have := x.le_toInt; omega, by have := x.toInt_lt; omega⟩
theorem iI_lt {a b : Int} (ha : sm a) (hb : sm b) : iI a < iI b ↔ a < b := by rw [Int32.lt_iff_toInt_lt, iI_toInt ha, iI_toInt hb]
theorem iI_le {a b : Int} (ha : sm a) (hb : sm b) : iI a ≤ iI b ↔ a ≤ b := by rw [Int32.le_iff_toInt_le, iI_toInt ha, iI_toInt hb]
theorem iI_eq {a b : Int} (ha : sm a) (hb : sm b) : iI a = iI b ↔ a = b := by rw [← Int32.toInt_inj, iI_toInt ha, iI_toInt hb]
theorem iI_0 : iI 0 = 0 := by decide +kernel
theorem iI_nat {z : Int} (h : sm z) : (iI z).toNatClampNeg = z.toNat := Int32.toNatClampNeg_ofInt_of_le (by have := h.1; omega) (by have := h.2; omega)
theorem iI_div {a b : Int} (ha : sm a) (hb : sm b) (h1 : b ≠ -1) : iI a / iI b = iI (a.tdiv b) := by
  apply Int32.toInt_inj.mp
  have hq : sm (a.tdiv b) := by
    have h2 : (a.tdiv b).natAbs ≤ a.natAbs := by rw [Int.natAbs_tdiv]; exact Nat.div_le_self _ _
    have := ha.1; have := ha.2
    rcases Int.lt_or_le a (-2147483647) with q | q
    · have e : a = -2147483648 := by omega
      subst e
      by_cases hb0 : b = 0
      · subst hb0; simp [sm]
      · by_cases hb1 : b = 1
        · subst hb1; simp [sm]
        · have h3 : (Int.tdiv (-2147483648) b).natAbs ≤ 1073741824 := by
            rw [Int.natAbs_tdiv]
            have : 2 ≤ b.natAbs := by omega
            calc (-2147483648 : Int).natAbs / b.natAbs ≤ (-2147483648 : Int).natAbs / 2 := Nat.div_le_div_left this (by omega)
              _ = 1073741824 := by decide
          constructor <;> omega
    · constructor <;> omega
  rw [Int32.toInt_div_of_ne_right _ _ (fun h => h1 ?_), iI_toInt ha, iI_toInt hb, iI_toInt hq]
  have := congrArg Int32.toInt h
  rw [iI_toInt hb] at this
  exact this
theorem iI_rem {a b : Int} (ha : sm a) (hb : sm b) : iI a % iI b = iI (a.tmod b) := by
  apply Int32.toInt_inj.mp
  have hq : sm (a.tmod b) := by
    have h2 : (a.tmod b).natAbs ≤ a.natAbs := by
      rw [Int.natAbs_tmod]; exact Nat.mod_le _ _
    have := ha.1; have := ha.2
    have h3 : 0 ≤ a → 0 ≤ a.tmod b := fun h => Int.tmod_nonneg b h
    have h4 : a ≤ 0 → a.tmod b ≤ 0 := fun h => by
      have q := Int.tmod_nonneg b (show 0 ≤ -a by omega)
      rw [Int.neg_tmod] at q
      omega
    constructor <;> omega
  rw [Int32.toInt_mod, iI_toInt ha, iI_toInt hb, iI_toInt hq]
theorem iI_in {z : Int} {n : Nat} (h : 0 ≤ z ∧ z < (n : Int)) (hn : n < 2147483648) : vp_in (iI z) n := by
  rw [vp_in_iff, iI_toInt ⟨by omega, by omega⟩]
  exact h
/-- what the machine's own operations make, as whole numbers -/
def zand (a b : Int) : Int := (iI a &&& iI b).toInt
def zor (a b : Int) : Int := (iI a ||| iI b).toInt
def zxor (a b : Int) : Int := (iI a ^^^ iI b).toInt
def zshl (a b : Int) : Int := (iI a <<< (iI b &&& 31)).toInt
def zshr (a b : Int) : Int := (iI a >>> (iI b &&& 31)).toInt
/-- a place's form: an array (0 ints, 1 chars, 2 carpets) with its length, or an object's class -/
abbrev Sh : Type := (Nat × Nat) ⊕ Nat
abbrev Wd : Type := Nat × (Nat → Int → Int) × (Nat → Int → Value)
abbrev Gm : Type := Launch × va_G × (Nat → ClassId) × Nat × Nat × Nat × (Nat → Int32)
/-- a method: its name, code, number of slots, answer's type, room -/
abbrev Mu : Type := MethodName × ByteArray × Nat × Option FieldType × Room
abbrev clsL : List vw_C := [(RX0, TX0, 8), (RX1, TX1, 8), (RX2, TX2, 3), (RX3, TX3, 13), (RX4, TX4, 3), (RX5, TX5, 3), (RX6, TX6, 11), (RX7, TX7, 27)]
abbrev tysL (Γ : Gm) : List (ClassId × FieldType) := [(Γ.2.2.1 0, .int), (Γ.2.2.1 1, .char), (Γ.2.2.1 2, .object RX0)]
def ad (Γ : Gm) (r : Nat) : Nat := if r = 999 then Γ.2.2.2.2.1 else Γ.2.2.2.1 + r
def cv (Γ : Gm) (v : Value) : Value := match v with
  | .ref r => .ref (ad Γ r)
  | v => v
def cvO (Γ : Gm) (v : Value) : Option Nat := match v with
  | .ref r => some (ad Γ r)
  | _ => none
def ksO : Nat → List Bool := fun ci => match ci with
  | 0 => [true, true, false, false, false, false, false, false]
  | 1 => [true, true, true, false, false, false, false, false]
  | 2 => [false, false, false]
  | 3 => [true, true, true, true, true, false, false, false, false, false, false, false, false]
  | 4 => [true, false, false]
  | 5 => [true, true, false]
  | 6 => [true, false, true, true, true, true, true, true, true, true, true]
  | _ => [false, true, false, false, false, false, true, true, true, false, false, true, true, true, true, true, true, false, true, false, false, true, true, true, false, false, false]
def nO : Nat → Nat := fun ci => (ksO ci).length
def obE (Γ : Gm) (ks : List Bool) (f : Int → Int) (g : Int → Value) (k : Nat) : Value := if ks.getD k false then cv Γ (g k) else vI (f k)
def cellE (Γ : Gm) (sh : Sh) (f : Int → Int) (g : Int → Value) : va_E := match sh with
  | .inl (2, n) => .inl (Γ.2.2.1 2, n, .inr (.inr (.inr (.inr (fun k => cvO Γ (g k))))))
  | .inl (t, n) => .inl (Γ.2.2.1 t, n, .inl (fun k => iI (f k)))
  | .inr ci => .inr (ci, (List.range (ksO ci).length).map (obE Γ (ksO ci) f g))
def shp : List Sh := [.inr 6, .inl (1, 200), .inr 3, .inl (0, 12), .inl (0, 12), .inl (0, 12), .inl (0, 12), .inl (0, 3), .inr 3, .inl (0, 12), .inl (0, 12), .inl (0, 12), .inl (0, 12), .inl (0, 3), .inr 0, .inl (0, 12), .inl (0, 4), .inr 0, .inl (0, 12), .inl (0, 4), .inr 4, .inl (2, 8), .inr 0, .inl (0, 12), .inl (0, 4), .inr 0, .inl (0, 12), .inl (0, 4), .inr 0, .inl (0, 12), .inl (0, 4), .inr 0, .inl (0, 12), .inl (0, 4), .inr 0, .inl (0, 12), .inl (0, 4), .inr 0, .inl (0, 12), .inl (0, 4), .inr 0, .inl (0, 12), .inl (0, 4), .inr 0, .inl (0, 12), .inl (0, 4), .inr 4, .inl (2, 2), .inr 0, .inl (0, 12), .inl (0, 4), .inr 0, .inl (0, 12), .inl (0, 4), .inr 5, .inl (0, 6), .inl (0, 6), .inr 1, .inl (0, 13), .inl (0, 13), .inl (0, 13), .inr 2, .inl (1, 84), .inr 7, .inl (0, 200), .inl (0, 36), .inl (0, 12), .inl (0, 6), .inl (0, 36), .inl (0, 12), .inl (0, 6), .inl (0, 32), .inl (0, 32), .inl (0, 256), .inl (0, 64), .inl (0, 12), .inl (0, 12), .inl (0, 12)]
def sh (w : Wd) (r : Nat) : Option Sh := if r < w.1 then shp[r]? else none
def wI (w : Wd) (r : Nat) (k : Int) : Int := w.2.1 r k
def wR (w : Wd) (r : Nat) (k : Int) : Value := w.2.2 r k
def stI (w : Wd) (r : Nat) (k : Int) (v : Int) : Wd := (w.1, (fun a i => if a = r ∧ i = k then v else w.2.1 a i), w.2.2)
def stR (w : Wd) (r : Nat) (k : Int) (v : Value) : Wd := (w.1, w.2.1, fun a i => if a = r ∧ i = k then v else w.2.2 a i)
theorem sh_stI (w : Wd) (r : Nat) (k v : Int) (a : Nat) : sh (stI w r k v) a = sh w a := rfl
theorem sh_stR (w : Wd) (r : Nat) (k : Int) (v : Value) (a : Nat) : sh (stR w r k v) a = sh w a := rfl
theorem wI_stI (w : Wd) (r : Nat) (k v : Int) (a : Nat) (i : Int) : wI (stI w r k v) a i = if a = r ∧ i = k then v else wI w a i := rfl
theorem wR_stI (w : Wd) (r : Nat) (k v : Int) (a : Nat) (i : Int) : wR (stI w r k v) a i = wR w a i := rfl
theorem wI_stR (w : Wd) (r : Nat) (k : Int) (v : Value) (a : Nat) (i : Int) : wI (stR w r k v) a i = wI w a i := rfl
theorem wR_stR (w : Wd) (r : Nat) (k : Int) (v : Value) (a : Nat) (i : Int) : wR (stR w r k v) a i = if a = r ∧ i = k then v else wR w a i := rfl
def wsE (Γ : Gm) (w : Wd) (r : Nat) : Nat × va_E := (Γ.2.2.2.1 + r, cellE Γ (shp.getD r (.inr 8)) (w.2.1 r) (w.2.2 r))
def wsW (Γ : Gm) (w : Wd) : va_W := (List.range w.1).map (wsE Γ w)
theorem wsW_at (Γ : Gm) {w : Wd} {r : Nat} {x : Sh} (h : sh w r = some x) : (wsW Γ w)[r]? = some (Γ.2.2.2.1 + r, cellE Γ x (w.2.1 r) (w.2.2 r)) := by
  unfold sh at h
  split at h
  · rename_i hr
    simp only [wsW, List.getElem?_map, List.getElem?_range hr, Option.map_some, wsE]
    rw [List.getD_eq_getElem?_getD, h]
    rfl
  · cases h
theorem wsW_len (Γ : Gm) (w : Wd) : (wsW Γ w).length = w.1 := by simp [wsW]
def Ab (Γ : Gm) : Nat → Prop := fun q => Γ.2.2.2.1 ≤ q
theorem wsW_D (Γ : Gm) (w : Wd) : va_D (Ab Γ) (wsW Γ w) := by
  have key : ∀ (k : Nat) (q : Nat × va_E), (wsW Γ w)[k]? = some q → q.1 = Γ.2.2.2.1 + k := by
    intro k q h
    simp only [wsW, List.getElem?_map, Option.map_eq_some_iff] at h
    obtain ⟨a, h1, rfl⟩ := h
    obtain ⟨h2, h3⟩ := List.getElem?_eq_some_iff.mp h1
    simp at h3
    subst h3
    rfl
  refine ⟨fun i j p q hi hj e => ?_, fun k q h => ?_⟩
  · have a := key i p hi
    have b := key j q hj
    omega
  · show Γ.2.2.2.1 ≤ q.1
    rw [key k q h]
    omega
/-- the picture of a heap -/
def PH (Γ : Gm) (w : Wd) (H : Heap) : Prop := va_P Γ.2.1 clsL (wsW Γ w) H
def PK (Γ : Gm) (U : State) : Prop := va_K Γ.2.1 clsL (tysL Γ) U ∧ va_AO RX0 U ∧ PN U
theorem PK.warm {Γ : Gm} {u U : State} (hW : u.WarmedH U.vm) (h : PK Γ u) : PK Γ U := ⟨va_K.moved hW.alike h.1, va_AO.moved hW.alike h.2.1, PN.warm hW h.2.2⟩
theorem PK.same {Γ : Gm} {u U : State} (hv : u.vm = U.vm) (h : PK Γ u) : PK Γ U := ⟨va_K.moved (hv ▸ Vm.Alike.refl u.vm) h.1, va_AO.moved (hv ▸ Vm.Alike.refl u.vm) h.2.1, PN.same hv h.2.2⟩
def PU (Γ : Gm) (w : Wd) (U : State) : Prop := PH Γ w U.heap ∧ PK Γ U
/-- what was written, and how much was made -/
def SS (Γ : Gm) (kc n : Nat) (s : State) (H : Heap) (locs : List Loc) : Prop := va_S (Ab Γ) s.heap H locs ∧ s.heap.size + kc = Γ.2.2.2.1 + n ∧ Γ.2.2.2.1 ≤ s.heap.size
def wsM (μ : Mu) : List Cond := .code μ.1 μ.2.1 μ.2.2.1 μ.2.2.2.1 :: TB
theorem tb_goodM {μ : Mu} (h : Cond.code μ.1 μ.2.1 μ.2.2.1 μ.2.2.2.1 ∈ TB) : GoodIn TB (wsM μ) := fun w hw => by
  rcases List.mem_cons.mp hw with rfl | h2
  · exact tb_good _ h
  · exact tb_good _ h2
/-- the frame's slots -/
def LO (Γ : Gm) (n : Nat) (L : List (Option Value)) (ls : Array Slot) : Prop := L.length = n ∧ ls.size = n ∧ lv_wf ls ∧ ∀ (k : Nat) (v : Value), L[k]? = some (some v) → ls[k]? = some (.val (cv Γ v))
def lvF (Γ : Gm) (L : List (Option Value)) : List (Nat × Value) := (List.range L.length).filterMap fun k => (L[k]?.join).map fun v => (k, cv Γ v)
theorem lvF_mem {Γ : Gm} {L : List (Option Value)} {k : Nat} {v : Value} (h : L[k]? = some (some v)) : (k, cv Γ v) ∈ lvF Γ L := by
  refine List.mem_filterMap.mpr ⟨k, ?_, ?_⟩
  · exact List.mem_range.mpr (List.getElem?_eq_some_iff.mp h).1
  · simp [h]
theorem LO.has {Γ : Gm} {n : Nat} {L : List (Option Value)} {ls : Array Slot} (h : LO Γ n L ls) : lv_has ls n (lvF Γ L) := by
  refine ⟨h.2.1, h.2.2.1, fun q hq => ?_⟩
  obtain ⟨k, -, hk⟩ := List.mem_filterMap.mp hq
  simp only [Option.map_eq_some_iff] at hk
  obtain ⟨v, hv, rfl⟩ := hk
  exact h.2.2.2 k v (by
    cases hx : L[k]? with
    | none => rw [hx] at hv; cases hv
    | some o => rw [hx] at hv; simp only [Option.join_some] at hv; rw [hv])
/-- no long just ahead of slot i -/
def nl1 (L : List (Option Value)) (i : Nat) : Bool := match i with
  | 0 => true
  | j + 1 => match L[j]? with
    | some (some v) => v.category == 1
    | _ => true
theorem cv_cat (Γ : Gm) (v : Value) : (cv Γ v).category = v.category := by cases v <;> rfl
theorem LO.set1 {Γ : Gm} {n i : Nat} {L : List (Option Value)} {ls ls' : Array Slot} {v : Value} (h : LO Γ n L ls) (hi : i < n) (hn : nl1 L i = true)
    (h' : lv_has ls' n ((i, cv Γ v) :: (lvF Γ L).filter (fun q => !(q.1 == i) && !(q.1 + 1 == i && q.2.category == 2)))) : LO Γ n (L.set i (some v)) ls' := by
  refine ⟨by simpa using h.1, h'.1, h'.2.1, fun k x hk => ?_⟩
  by_cases e : k = i
  · subst e
    rw [List.getElem?_set_self (by rw [h.1]; exact hi)] at hk
    cases hk
    exact h'.2.2 _ List.mem_cons_self
  · rw [List.getElem?_set_ne (fun q => e q.symm)] at hk
    refine h'.2.2 (k, cv Γ x) (List.mem_cons_of_mem _ (List.mem_filter.mpr ⟨lvF_mem hk, ?_⟩))
    simp only [Bool.and_eq_true, Bool.not_eq_true', beq_eq_false_iff_ne, ne_eq, Bool.and_eq_false_iff]
    refine ⟨e, ?_⟩
    by_cases e2 : k + 1 = i
    · right
      subst e2
      simp only [nl1, hk, beq_iff_eq] at hn
      rw [cv_cat, hn]
      decide
    · left; exact e2
theorem LO.set2 {Γ : Gm} {n i : Nat} {L : List (Option Value)} {ls ls' : Array Slot} {v : Value} (h : LO Γ n L ls) (hi : i + 1 < n) (hn : nl1 L i = true)
    (h' : lv_has ls' n ((i, cv Γ v) :: (lvF Γ L).filter (fun q => !(q.1 == i) && (!(q.1 == i + 1) && !(q.1 + 1 == i && q.2.category == 2))))) : LO Γ n ((L.set i (some v)).set (i + 1) none) ls' := by
  refine ⟨by simpa using h.1, h'.1, h'.2.1, fun k x hk => ?_⟩
  by_cases e1 : k = i + 1
  · subst e1
    rw [List.getElem?_set_self (by rw [List.length_set, h.1]; exact hi)] at hk
    cases hk
  · rw [List.getElem?_set_ne (fun q => e1 q.symm)] at hk
    by_cases e : k = i
    · subst e
      rw [List.getElem?_set_self (by rw [h.1]; omega)] at hk
      cases hk
      exact h'.2.2 _ List.mem_cons_self
    · rw [List.getElem?_set_ne (fun q => e q.symm)] at hk
      refine h'.2.2 (k, cv Γ x) (List.mem_cons_of_mem _ (List.mem_filter.mpr ⟨lvF_mem hk, ?_⟩))
      simp only [Bool.and_eq_true, Bool.not_eq_true', beq_eq_false_iff_ne, ne_eq, Bool.and_eq_false_iff]
      refine ⟨e, e1, ?_⟩
      by_cases e2 : k + 1 = i
      · right
        subst e2
        simp only [nl1, hk, beq_iff_eq] at hn
        rw [cv_cat, hn]
        decide
      · left; exact e2
end
section
/-- what holds of the machine while a method runs -/
def Cx (Γ : Gm) (μ : Mu) (p : Program) (R : Room) (s : State) (m : MethodId) (args : Array Value) (meth : Method) (c : Code) : Prop :=
  p.tables.exec = Jvm.exec ∧ c.code = μ.2.1 ∧ c.maxLocals = μ.2.2.1 ∧ s.vm.findClass μ.1.cls = some m.cls ∧ (∀ w ∈ TB, w.before args s = true) ∧ R = μ.2.2.2.2 ∧ meth.name = μ.1.name ∧ PK Γ s ∧ (μ.1.cls = RL → va_X Γ.2.2.2.2.1 Γ.2.2.2.2.2.1 Γ.2.2.2.2.2.2 s s.heap ∧ Γ.2.2.2.2.1 < s.heap.size ∧ ¬ Ab Γ Γ.2.2.2.2.1)
/-- what an answer must be for its type -/
def rfit (ret : Option FieldType) (v : Option Value) : Prop := match ret, v with
  | none, none => True
  | some .int, some (.int _) => True
  | some .boolean, some (.int x) => x = iI 0 ∨ x = iI 1
  | some (.object _), some (.ref _) => True
  | some (.object _), some .null => True
  | some (.array _), some (.ref _) => True
  | _, _ => False
def isRet (b : ByteArray) (pc : Nat) (v : Option Value) : Prop := match v with
  | none => decode b pc = .ok (.return_, 1)
  | some (.int _) => decode b pc = .ok (.ireturn, 1)
  | some (.ref _) => decode b pc = .ok (.areturn, 1)
  | some .null => decode b pc = .ok (.areturn, 1)
  | _ => False
/-- the method's end is good for what stands behind it -/
def RO (Γ : Gm) (μ : Mu) (Ret : Option Value → Wd → Prop) (p : Program) (e : Env) (R : Room) (s : State) (m : MethodId) (args : Array Value) (below : List Frame) (meth : Method) (c : Code) (Q : State → Prop) : Prop :=
  ∀ (v : Option Value) (w : Wd) (H : Heap) (locs : List Loc) (kc ks pc : Nat) (ls : Array Slot), Ret v w → rfit μ.2.2.2.1 v → kc = R.cells → ks ≤ R.slots → PH Γ w H → SS Γ kc w.1 s H locs → isRet μ.2.1 pc v →
    W p Γ.1 e R s m args below meth c H locs kc ks Q (F0 m pc ls (v.toList.map (cv Γ)))
def G (Γ : Gm) (μ : Mu) (Ret : Option Value → Wd → Prop) (kc ks pc : Nat) (L : List (Option Value)) (st : List Value) (w : Wd) : Prop :=
  ∀ (p : Program) (e : Env) (R : Room) (s : State) (m : MethodId) (args : Array Value) (below : List Frame) (meth : Method) (c : Code) (H : Heap) (locs : List Loc) (Q : State → Prop) (ls : Array Slot),
    Cx Γ μ p R s m args meth c → RO Γ μ Ret p e R s m args below meth c Q → PH Γ w H → SS Γ kc w.1 s H locs → LO Γ μ.2.2.1 L ls →
    W p Γ.1 e R s m args below meth c H locs kc ks Q (F0 m pc ls (st.map (cv Γ)))
variable {Γ : Gm} {μ : Mu} {Ret : Option Value → Wd → Prop} {kc ks pc : Nat} {L : List (Option Value)} {st : List Value} {w : Wd}
theorem G_const {n : Int} (hd : decode μ.2.1 pc = .ok (.iconst n, 1)) (k : G Γ μ Ret kc ks (pc + 1) L (vI n :: st) w) : G Γ μ Ret kc ks pc L st w :=
  fun p e R s m args below meth c H locs Q ls C r P S o => lv_iconst (v := iI n) C.1 C.2.1 hd rfl (k p e R s m args below meth c H locs Q ls C r P S o)
theorem G_bipush {n : Int} (hd : decode μ.2.1 pc = .ok (.bipush n, 2)) (hn : (Int8.ofInt n).toInt32 = iI n) (k : G Γ μ Ret kc ks (pc + 2) L (vI n :: st) w) : G Γ μ Ret kc ks pc L st w :=
  fun p e R s m args below meth c H locs Q ls C r P S o => lv_bipush (v := iI n) C.1 C.2.1 hd hn (k p e R s m args below meth c H locs Q ls C r P S o)
theorem G_sipush {n : Int} (hd : decode μ.2.1 pc = .ok (.sipush n, 3)) (hn : (Int16.ofInt n).toInt32 = iI n) (k : G Γ μ Ret kc ks (pc + 3) L (vI n :: st) w) : G Γ μ Ret kc ks pc L st w :=
  fun p e R s m args below meth c H locs Q ls C r P S o => lv_sipush (v := iI n) C.1 C.2.1 hd hn (k p e R s m args below meth c H locs Q ls C r P S o)
theorem G_ldc {n : Int} {i : Nat} (hd : decode μ.2.1 pc = .ok (.ldc i, 2)) (hc : Cond.constant μ.1.cls i (iI n) ∈ TB) (k : G Γ μ Ret kc ks (pc + 2) L (vI n :: st) w) : G Γ μ Ret kc ks pc L st w :=
  fun p e R s m args below meth c H locs Q ls C r P S o => lv_ldc C.1 C.2.1 C.2.2.2.1 (C.2.2.2.2.1 _ hc) hd (k p e R s m args below meth c H locs Q ls C r P S o)
theorem G_iload {i : Nat} {z : Int} (hd : decode μ.2.1 pc = .ok (.iload i, 2)) (hl : L[i]? = some (some (vI z))) (k : G Γ μ Ret kc ks (pc + 2) L (vI z :: st) w) : G Γ μ Ret kc ks pc L st w :=
  fun p e R s m args below meth c H locs Q ls C r P S o => lv_iload C.1 C.2.1 hd (o.2.2.2 i _ hl) (k p e R s m args below meth c H locs Q ls C r P S o)
theorem G_iload_n {i : Fin 4} {z : Int} (hd : decode μ.2.1 pc = .ok (.iload_n i, 1)) (hl : L[i.val]? = some (some (vI z))) (k : G Γ μ Ret kc ks (pc + 1) L (vI z :: st) w) : G Γ μ Ret kc ks pc L st w :=
  fun p e R s m args below meth c H locs Q ls C r P S o => lv_iload_n C.1 C.2.1 hd rfl (o.2.2.2 i.val _ hl) (k p e R s m args below meth c H locs Q ls C r P S o)
theorem G_lload {i : Nat} {z : Int} (hd : decode μ.2.1 pc = .ok (.lload i, 2)) (hl : L[i]? = some (some (vL z))) (k : G Γ μ Ret kc ks (pc + 2) L (vL z :: st) w) : G Γ μ Ret kc ks pc L st w :=
  fun p e R s m args below meth c H locs Q ls C r P S o => lv_lload C.1 C.2.1 hd (o.2.2.2 i _ hl) (k p e R s m args below meth c H locs Q ls C r P S o)
theorem G_lload_n {i : Fin 4} {z : Int} (hd : decode μ.2.1 pc = .ok (.lload_n i, 1)) (hl : L[i.val]? = some (some (vL z))) (k : G Γ μ Ret kc ks (pc + 1) L (vL z :: st) w) : G Γ μ Ret kc ks pc L st w :=
  fun p e R s m args below meth c H locs Q ls C r P S o => lv_lload_n C.1 C.2.1 hd rfl (o.2.2.2 i.val _ hl) (k p e R s m args below meth c H locs Q ls C r P S o)
theorem G_aload {i : Nat} {x : Nat} (hd : decode μ.2.1 pc = .ok (.aload i, 2)) (hl : L[i]? = some (some (vR x))) (k : G Γ μ Ret kc ks (pc + 2) L (vR x :: st) w) : G Γ μ Ret kc ks pc L st w :=
  fun p e R s m args below meth c H locs Q ls C r P S o => lv_aload C.1 C.2.1 hd (o.2.2.2 i _ hl) (k p e R s m args below meth c H locs Q ls C r P S o)
theorem G_aload_n {i : Fin 4} {x : Nat} (hd : decode μ.2.1 pc = .ok (.aload_n i, 1)) (hl : L[i.val]? = some (some (vR x))) (k : G Γ μ Ret kc ks (pc + 1) L (vR x :: st) w) : G Γ μ Ret kc ks pc L st w :=
  fun p e R s m args below meth c H locs Q ls C r P S o => lv_aload_n C.1 C.2.1 hd rfl (o.2.2.2 i.val _ hl) (k p e R s m args below meth c H locs Q ls C r P S o)
theorem G_null (hd : decode μ.2.1 pc = .ok (.aconst_null, 1)) (k : G Γ μ Ret kc ks (pc + 1) L (.null :: st) w) : G Γ μ Ret kc ks pc L st w :=
  fun p e R s m args below meth c H locs Q ls C r P S o => lv_null C.1 C.2.1 hd (k p e R s m args below meth c H locs Q ls C r P S o)
theorem G_istore {i : Nat} {z : Int} (hd : decode μ.2.1 pc = .ok (.istore i, 2)) (hi : i < μ.2.2.1) (hn : nl1 L i = true) (k : G Γ μ Ret kc ks (pc + 2) (L.set i (some (vI z))) st w) : G Γ μ Ret kc ks pc L (vI z :: st) w :=
  fun p e R s m args below meth c H locs Q ls C r P S o => lv_istore C.1 C.2.1 hd o.has hi rfl (fun ls' h' => k p e R s m args below meth c H locs Q ls' C r P S (o.set1 hi hn h'))
theorem G_istore_n {i : Fin 4} {z : Int} (hd : decode μ.2.1 pc = .ok (.istore_n i, 1)) (hi : i.val < μ.2.2.1) (hn : nl1 L i.val = true) (k : G Γ μ Ret kc ks (pc + 1) (L.set i.val (some (vI z))) st w) : G Γ μ Ret kc ks pc L (vI z :: st) w :=
  fun p e R s m args below meth c H locs Q ls C r P S o => lv_istore_n C.1 C.2.1 hd rfl o.has hi rfl (fun ls' h' => k p e R s m args below meth c H locs Q ls' C r P S (o.set1 hi hn h'))
theorem G_astore_n {i : Fin 4} {x : Nat} (hd : decode μ.2.1 pc = .ok (.astore_n i, 1)) (hi : i.val < μ.2.2.1) (hn : nl1 L i.val = true) (k : G Γ μ Ret kc ks (pc + 1) (L.set i.val (some (vR x))) st w) : G Γ μ Ret kc ks pc L (vR x :: st) w :=
  fun p e R s m args below meth c H locs Q ls C r P S o => lv_astore_n C.1 C.2.1 hd rfl o.has hi rfl (fun ls' h' => k p e R s m args below meth c H locs Q ls' C r P S (o.set1 hi hn h'))
theorem G_astore_nN {i : Fin 4} (hd : decode μ.2.1 pc = .ok (.astore_n i, 1)) (hi : i.val < μ.2.2.1) (hn : nl1 L i.val = true) (k : G Γ μ Ret kc ks (pc + 1) (L.set i.val (some .null)) st w) : G Γ μ Ret kc ks pc L (.null :: st) w :=
  fun p e R s m args below meth c H locs Q ls C r P S o => lv_astore_nN C.1 C.2.1 hd rfl o.has hi rfl (fun ls' h' => k p e R s m args below meth c H locs Q ls' C r P S (o.set1 hi hn h'))
theorem G_lstore {i : Nat} {z : Int} (hd : decode μ.2.1 pc = .ok (.lstore i, 2)) (hi : i + 1 < μ.2.2.1) (hn : nl1 L i = true) (k : G Γ μ Ret kc ks (pc + 2) ((L.set i (some (vL z))).set (i + 1) none) st w) : G Γ μ Ret kc ks pc L (vL z :: st) w :=
  fun p e R s m args below meth c H locs Q ls C r P S o => lv_lstore C.1 C.2.1 hd o.has hi rfl (fun ls' h' => k p e R s m args below meth c H locs Q ls' C r P S (o.set2 hi hn h'))
theorem G_lstore_n {i : Fin 4} {z : Int} (hd : decode μ.2.1 pc = .ok (.lstore_n i, 1)) (hi : i.val + 1 < μ.2.2.1) (hn : nl1 L i.val = true) (k : G Γ μ Ret kc ks (pc + 1) ((L.set i.val (some (vL z))).set (i.val + 1) none) st w) : G Γ μ Ret kc ks pc L (vL z :: st) w :=
  fun p e R s m args below meth c H locs Q ls C r P S o => lv_lstore_n C.1 C.2.1 hd rfl o.has hi rfl (fun ls' h' => k p e R s m args below meth c H locs Q ls' C r P S (o.set2 hi hn h'))
theorem G_iinc {i : Nat} {n z : Int} (hd : decode μ.2.1 pc = .ok (.iinc i n, 3)) (hi : i < μ.2.2.1) (hn : nl1 L i = true) (hl : L[i]? = some (some (vI z))) (k : G Γ μ Ret kc ks (pc + 3) (L.set i (some (vI (z + n)))) st w) : G Γ μ Ret kc ks pc L st w :=
  fun p e R s m args below meth c H locs Q ls C r P S o => by
    obtain ⟨j, hj⟩ := List.getElem?_of_mem (lvF_mem (Γ := Γ) hl)
    exact lv_iinc (v := iI (z + n)) C.1 C.2.1 hd o.has hj (iI_add z n) hi rfl (fun ls' h' => k p e R s m args below meth c H locs Q ls' C r P S (o.set1 hi hn h'))
theorem G_goto {off : Int} {tgt : Nat} (hd : decode μ.2.1 pc = .ok (.goto off, 3)) (ht : (pc : Int) + off = (tgt : Int)) (k : G Γ μ Ret kc ks tgt L st w) : G Γ μ Ret kc ks pc L st w :=
  fun p e R s m args below meth c H locs Q ls C r P S o => lv_goto C.1 C.2.1 hd ht (k p e R s m args below meth c H locs Q ls C r P S o)
theorem G_dup {v : Value} (hd : decode μ.2.1 pc = .ok (.dup, 1)) (hv : v.category = 1) (k : G Γ μ Ret kc ks (pc + 1) L (v :: v :: st) w) : G Γ μ Ret kc ks pc L (v :: st) w :=
  fun p e R s m args below meth c H locs Q ls C r P S o => lv_dup C.1 C.2.1 hd (by rw [cv_cat]; exact hv) (k p e R s m args below meth c H locs Q ls C r P S o)
theorem G_dup2 {v u : Value} (hd : decode μ.2.1 pc = .ok (.dup2, 1)) (hv : v.category = 1) (hu : u.category = 1) (k : G Γ μ Ret kc ks (pc + 1) L (v :: u :: v :: u :: st) w) : G Γ μ Ret kc ks pc L (v :: u :: st) w :=
  fun p e R s m args below meth c H locs Q ls C r P S o => lv_dup2_11 C.1 C.2.1 hd (by rw [cv_cat]; exact hv) (by rw [cv_cat]; exact hu) (k p e R s m args below meth c H locs Q ls C r P S o)
theorem G_pop {v : Value} (hd : decode μ.2.1 pc = .ok (.pop, 1)) (hv : v.category = 1) (k : G Γ μ Ret kc ks (pc + 1) L st w) : G Γ μ Ret kc ks pc L (v :: st) w :=
  fun p e R s m args below meth c H locs Q ls C r P S o => lv_pop C.1 C.2.1 hd (by rw [cv_cat]; exact hv) (k p e R s m args below meth c H locs Q ls C r P S o)
theorem G_iadd {x y : Int} (hd : decode μ.2.1 pc = .ok (.iadd, 1)) (k : G Γ μ Ret kc ks (pc + 1) L (vI (x + y) :: st) w) : G Γ μ Ret kc ks pc L (vI y :: vI x :: st) w :=
  fun p e R s m args below meth c H locs Q ls C r P S o => lv_iadd C.1 C.2.1 hd (by rw [iI_add]; exact k p e R s m args below meth c H locs Q ls C r P S o)
theorem G_isub {x y : Int} (hd : decode μ.2.1 pc = .ok (.isub, 1)) (k : G Γ μ Ret kc ks (pc + 1) L (vI (x - y) :: st) w) : G Γ μ Ret kc ks pc L (vI y :: vI x :: st) w :=
  fun p e R s m args below meth c H locs Q ls C r P S o => lv_isub C.1 C.2.1 hd (by rw [iI_sub]; exact k p e R s m args below meth c H locs Q ls C r P S o)
theorem G_imul {x y : Int} (hd : decode μ.2.1 pc = .ok (.imul, 1)) (k : G Γ μ Ret kc ks (pc + 1) L (vI (x * y) :: st) w) : G Γ μ Ret kc ks pc L (vI y :: vI x :: st) w :=
  fun p e R s m args below meth c H locs Q ls C r P S o => lv_imul C.1 C.2.1 hd (by rw [iI_mul]; exact k p e R s m args below meth c H locs Q ls C r P S o)
theorem G_iand {x y : Int} (hd : decode μ.2.1 pc = .ok (.iand, 1)) (k : G Γ μ Ret kc ks (pc + 1) L (vI (zand x y) :: st) w) : G Γ μ Ret kc ks pc L (vI y :: vI x :: st) w :=
  fun p e R s m args below meth c H locs Q ls C r P S o => lv_iand C.1 C.2.1 hd (by have h := k p e R s m args below meth c H locs Q ls C r P S o; unfold vI zand at h; rw [iI_of] at h; exact h)
theorem G_ior {x y : Int} (hd : decode μ.2.1 pc = .ok (.ior, 1)) (k : G Γ μ Ret kc ks (pc + 1) L (vI (zor x y) :: st) w) : G Γ μ Ret kc ks pc L (vI y :: vI x :: st) w :=
  fun p e R s m args below meth c H locs Q ls C r P S o => lv_ior C.1 C.2.1 hd (by have h := k p e R s m args below meth c H locs Q ls C r P S o; unfold vI zor at h; rw [iI_of] at h; exact h)
theorem G_ixor {x y : Int} (hd : decode μ.2.1 pc = .ok (.ixor, 1)) (k : G Γ μ Ret kc ks (pc + 1) L (vI (zxor x y) :: st) w) : G Γ μ Ret kc ks pc L (vI y :: vI x :: st) w :=
  fun p e R s m args below meth c H locs Q ls C r P S o => lv_ixor C.1 C.2.1 hd (by have h := k p e R s m args below meth c H locs Q ls C r P S o; unfold vI zxor at h; rw [iI_of] at h; exact h)
theorem G_ishl {x y : Int} (hd : decode μ.2.1 pc = .ok (.ishl, 1)) (k : G Γ μ Ret kc ks (pc + 1) L (vI (zshl x y) :: st) w) : G Γ μ Ret kc ks pc L (vI y :: vI x :: st) w :=
  fun p e R s m args below meth c H locs Q ls C r P S o => lv_ishl C.1 C.2.1 hd (by have h := k p e R s m args below meth c H locs Q ls C r P S o; unfold vI zshl at h; rw [iI_of] at h; exact h)
theorem G_ishr {x y : Int} (hd : decode μ.2.1 pc = .ok (.ishr, 1)) (k : G Γ μ Ret kc ks (pc + 1) L (vI (zshr x y) :: st) w) : G Γ μ Ret kc ks pc L (vI y :: vI x :: st) w :=
  fun p e R s m args below meth c H locs Q ls C r P S o => lv_ishr C.1 C.2.1 hd (by have h := k p e R s m args below meth c H locs Q ls C r P S o; unfold vI zshr at h; rw [iI_of] at h; exact h)
theorem G_idiv {x y : Int} (hd : decode μ.2.1 pc = .ok (.idiv, 1)) (hx : sm x) (hy : sm y) (h0 : y ≠ 0) (h1 : y ≠ -1) (k : G Γ μ Ret kc ks (pc + 1) L (vI (x.tdiv y) :: st) w) : G Γ μ Ret kc ks pc L (vI y :: vI x :: st) w :=
  fun p e R s m args below meth c H locs Q ls C r P S o => lv_idiv C.1 C.2.1 hd (fun h => h0 ((iI_eq hy (by decide)).mp (h.trans iI_0.symm))) (by rw [iI_div hx hy h1]; exact k p e R s m args below meth c H locs Q ls C r P S o)
theorem G_irem {x y : Int} (hd : decode μ.2.1 pc = .ok (.irem, 1)) (hx : sm x) (hy : sm y) (h0 : y ≠ 0) (h1 : y ≠ -1) (k : G Γ μ Ret kc ks (pc + 1) L (vI (x.tmod y) :: st) w) : G Γ μ Ret kc ks pc L (vI y :: vI x :: st) w :=
  fun p e R s m args below meth c H locs Q ls C r P S o => lv_irem C.1 C.2.1 hd (fun h => h0 ((iI_eq hy (by decide)).mp (h.trans iI_0.symm))) (by
    have e1 : iI x - iI x / iI y * iI y = iI (x.tmod y) := by rw [iI_div hx hy h1, iI_mul, iI_sub, Int.tmod_def, Int.mul_comm]
    rw [e1]
    exact k p e R s m args below meth c H locs Q ls C r P S o)
theorem G_if_lt {x off : Int} {tgt : Nat} (hd : decode μ.2.1 pc = .ok (.ifCond .lt off, 3)) (ht : (pc : Int) + off = (tgt : Int)) (hx : sm x) (kt : x < 0 → G Γ μ Ret kc ks tgt L st w) (kf : ¬ (x < 0) → G Γ μ Ret kc ks (pc + 3) L st w) : G Γ μ Ret kc ks pc L (vI x :: st) w := by
  intro p e R s m args below meth c H locs Q ls C r P S o
  have e1 : (iI x < 0 ↔ x < 0) ∧ (0 < iI x ↔ 0 < x) ∧ (iI x ≤ 0 ↔ x ≤ 0) ∧ (0 ≤ iI x ↔ 0 ≤ x) ∧ (iI x = 0 ↔ x = 0) := by
    have hy : sm 0 := by decide
    rw [← iI_0]
    exact ⟨iI_lt hx hy, iI_lt hy hx, iI_le hx hy, iI_le hy hx, iI_eq hx hy⟩
  exact lv_if_lt C.1 C.2.1 hd ht (fun q => kt (by simpa only [e1.1, e1.2.1, e1.2.2.1, e1.2.2.2.1, e1.2.2.2.2, ne_eq] using q) p e R s m args below meth c H locs Q ls C r P S o) (fun q => kf (by simpa only [e1.1, e1.2.1, e1.2.2.1, e1.2.2.2.1, e1.2.2.2.2, ne_eq] using q) p e R s m args below meth c H locs Q ls C r P S o)
theorem G_icmp_lt {x y off : Int} {tgt : Nat} (hd : decode μ.2.1 pc = .ok (.if_icmp .lt off, 3)) (ht : (pc : Int) + off = (tgt : Int)) (hx : sm x) (hy : sm y) (kt : x < y → G Γ μ Ret kc ks tgt L st w) (kf : ¬ (x < y) → G Γ μ Ret kc ks (pc + 3) L st w) : G Γ μ Ret kc ks pc L (vI y :: vI x :: st) w := by
  intro p e R s m args below meth c H locs Q ls C r P S o
  have e1 : (iI x < iI y ↔ x < y) ∧ (iI y < iI x ↔ y < x) ∧ (iI x ≤ iI y ↔ x ≤ y) ∧ (iI y ≤ iI x ↔ y ≤ x) ∧ (iI x = iI y ↔ x = y) := by
    skip
    skip
    exact ⟨iI_lt hx hy, iI_lt hy hx, iI_le hx hy, iI_le hy hx, iI_eq hx hy⟩
  exact lv_icmp_lt C.1 C.2.1 hd ht (fun q => kt (by simpa only [e1.1, e1.2.1, e1.2.2.1, e1.2.2.2.1, e1.2.2.2.2, ne_eq] using q) p e R s m args below meth c H locs Q ls C r P S o) (fun q => kf (by simpa only [e1.1, e1.2.1, e1.2.2.1, e1.2.2.2.1, e1.2.2.2.2, ne_eq] using q) p e R s m args below meth c H locs Q ls C r P S o)
theorem G_if_ge {x off : Int} {tgt : Nat} (hd : decode μ.2.1 pc = .ok (.ifCond .ge off, 3)) (ht : (pc : Int) + off = (tgt : Int)) (hx : sm x) (kt : 0 ≤ x → G Γ μ Ret kc ks tgt L st w) (kf : ¬ (0 ≤ x) → G Γ μ Ret kc ks (pc + 3) L st w) : G Γ μ Ret kc ks pc L (vI x :: st) w := by
  intro p e R s m args below meth c H locs Q ls C r P S o
  have e1 : (iI x < 0 ↔ x < 0) ∧ (0 < iI x ↔ 0 < x) ∧ (iI x ≤ 0 ↔ x ≤ 0) ∧ (0 ≤ iI x ↔ 0 ≤ x) ∧ (iI x = 0 ↔ x = 0) := by
    have hy : sm 0 := by decide
    rw [← iI_0]
    exact ⟨iI_lt hx hy, iI_lt hy hx, iI_le hx hy, iI_le hy hx, iI_eq hx hy⟩
  exact lv_if_ge C.1 C.2.1 hd ht (fun q => kt (by simpa only [e1.1, e1.2.1, e1.2.2.1, e1.2.2.2.1, e1.2.2.2.2, ne_eq] using q) p e R s m args below meth c H locs Q ls C r P S o) (fun q => kf (by simpa only [e1.1, e1.2.1, e1.2.2.1, e1.2.2.2.1, e1.2.2.2.2, ne_eq] using q) p e R s m args below meth c H locs Q ls C r P S o)
theorem G_icmp_ge {x y off : Int} {tgt : Nat} (hd : decode μ.2.1 pc = .ok (.if_icmp .ge off, 3)) (ht : (pc : Int) + off = (tgt : Int)) (hx : sm x) (hy : sm y) (kt : y ≤ x → G Γ μ Ret kc ks tgt L st w) (kf : ¬ (y ≤ x) → G Γ μ Ret kc ks (pc + 3) L st w) : G Γ μ Ret kc ks pc L (vI y :: vI x :: st) w := by
  intro p e R s m args below meth c H locs Q ls C r P S o
  have e1 : (iI x < iI y ↔ x < y) ∧ (iI y < iI x ↔ y < x) ∧ (iI x ≤ iI y ↔ x ≤ y) ∧ (iI y ≤ iI x ↔ y ≤ x) ∧ (iI x = iI y ↔ x = y) := by
    skip
    skip
    exact ⟨iI_lt hx hy, iI_lt hy hx, iI_le hx hy, iI_le hy hx, iI_eq hx hy⟩
  exact lv_icmp_ge C.1 C.2.1 hd ht (fun q => kt (by simpa only [e1.1, e1.2.1, e1.2.2.1, e1.2.2.2.1, e1.2.2.2.2, ne_eq] using q) p e R s m args below meth c H locs Q ls C r P S o) (fun q => kf (by simpa only [e1.1, e1.2.1, e1.2.2.1, e1.2.2.2.1, e1.2.2.2.2, ne_eq] using q) p e R s m args below meth c H locs Q ls C r P S o)
theorem G_if_gt {x off : Int} {tgt : Nat} (hd : decode μ.2.1 pc = .ok (.ifCond .gt off, 3)) (ht : (pc : Int) + off = (tgt : Int)) (hx : sm x) (kt : 0 < x → G Γ μ Ret kc ks tgt L st w) (kf : ¬ (0 < x) → G Γ μ Ret kc ks (pc + 3) L st w) : G Γ μ Ret kc ks pc L (vI x :: st) w := by
  intro p e R s m args below meth c H locs Q ls C r P S o
  have e1 : (iI x < 0 ↔ x < 0) ∧ (0 < iI x ↔ 0 < x) ∧ (iI x ≤ 0 ↔ x ≤ 0) ∧ (0 ≤ iI x ↔ 0 ≤ x) ∧ (iI x = 0 ↔ x = 0) := by
    have hy : sm 0 := by decide
    rw [← iI_0]
    exact ⟨iI_lt hx hy, iI_lt hy hx, iI_le hx hy, iI_le hy hx, iI_eq hx hy⟩
  exact lv_if_gt C.1 C.2.1 hd ht (fun q => kt (by simpa only [e1.1, e1.2.1, e1.2.2.1, e1.2.2.2.1, e1.2.2.2.2, ne_eq] using q) p e R s m args below meth c H locs Q ls C r P S o) (fun q => kf (by simpa only [e1.1, e1.2.1, e1.2.2.1, e1.2.2.2.1, e1.2.2.2.2, ne_eq] using q) p e R s m args below meth c H locs Q ls C r P S o)
theorem G_icmp_gt {x y off : Int} {tgt : Nat} (hd : decode μ.2.1 pc = .ok (.if_icmp .gt off, 3)) (ht : (pc : Int) + off = (tgt : Int)) (hx : sm x) (hy : sm y) (kt : y < x → G Γ μ Ret kc ks tgt L st w) (kf : ¬ (y < x) → G Γ μ Ret kc ks (pc + 3) L st w) : G Γ μ Ret kc ks pc L (vI y :: vI x :: st) w := by
  intro p e R s m args below meth c H locs Q ls C r P S o
  have e1 : (iI x < iI y ↔ x < y) ∧ (iI y < iI x ↔ y < x) ∧ (iI x ≤ iI y ↔ x ≤ y) ∧ (iI y ≤ iI x ↔ y ≤ x) ∧ (iI x = iI y ↔ x = y) := by
    skip
    skip
    exact ⟨iI_lt hx hy, iI_lt hy hx, iI_le hx hy, iI_le hy hx, iI_eq hx hy⟩
  exact lv_icmp_gt C.1 C.2.1 hd ht (fun q => kt (by simpa only [e1.1, e1.2.1, e1.2.2.1, e1.2.2.2.1, e1.2.2.2.2, ne_eq] using q) p e R s m args below meth c H locs Q ls C r P S o) (fun q => kf (by simpa only [e1.1, e1.2.1, e1.2.2.1, e1.2.2.2.1, e1.2.2.2.2, ne_eq] using q) p e R s m args below meth c H locs Q ls C r P S o)
theorem G_if_le {x off : Int} {tgt : Nat} (hd : decode μ.2.1 pc = .ok (.ifCond .le off, 3)) (ht : (pc : Int) + off = (tgt : Int)) (hx : sm x) (kt : x ≤ 0 → G Γ μ Ret kc ks tgt L st w) (kf : ¬ (x ≤ 0) → G Γ μ Ret kc ks (pc + 3) L st w) : G Γ μ Ret kc ks pc L (vI x :: st) w := by
  intro p e R s m args below meth c H locs Q ls C r P S o
  have e1 : (iI x < 0 ↔ x < 0) ∧ (0 < iI x ↔ 0 < x) ∧ (iI x ≤ 0 ↔ x ≤ 0) ∧ (0 ≤ iI x ↔ 0 ≤ x) ∧ (iI x = 0 ↔ x = 0) := by
    have hy : sm 0 := by decide
    rw [← iI_0]
    exact ⟨iI_lt hx hy, iI_lt hy hx, iI_le hx hy, iI_le hy hx, iI_eq hx hy⟩
  exact lv_if_le C.1 C.2.1 hd ht (fun q => kt (by simpa only [e1.1, e1.2.1, e1.2.2.1, e1.2.2.2.1, e1.2.2.2.2, ne_eq] using q) p e R s m args below meth c H locs Q ls C r P S o) (fun q => kf (by simpa only [e1.1, e1.2.1, e1.2.2.1, e1.2.2.2.1, e1.2.2.2.2, ne_eq] using q) p e R s m args below meth c H locs Q ls C r P S o)
theorem G_icmp_le {x y off : Int} {tgt : Nat} (hd : decode μ.2.1 pc = .ok (.if_icmp .le off, 3)) (ht : (pc : Int) + off = (tgt : Int)) (hx : sm x) (hy : sm y) (kt : x ≤ y → G Γ μ Ret kc ks tgt L st w) (kf : ¬ (x ≤ y) → G Γ μ Ret kc ks (pc + 3) L st w) : G Γ μ Ret kc ks pc L (vI y :: vI x :: st) w := by
  intro p e R s m args below meth c H locs Q ls C r P S o
  have e1 : (iI x < iI y ↔ x < y) ∧ (iI y < iI x ↔ y < x) ∧ (iI x ≤ iI y ↔ x ≤ y) ∧ (iI y ≤ iI x ↔ y ≤ x) ∧ (iI x = iI y ↔ x = y) := by
    skip
    skip
    exact ⟨iI_lt hx hy, iI_lt hy hx, iI_le hx hy, iI_le hy hx, iI_eq hx hy⟩
  exact lv_icmp_le C.1 C.2.1 hd ht (fun q => kt (by simpa only [e1.1, e1.2.1, e1.2.2.1, e1.2.2.2.1, e1.2.2.2.2, ne_eq] using q) p e R s m args below meth c H locs Q ls C r P S o) (fun q => kf (by simpa only [e1.1, e1.2.1, e1.2.2.1, e1.2.2.2.1, e1.2.2.2.2, ne_eq] using q) p e R s m args below meth c H locs Q ls C r P S o)
theorem G_if_eq {x off : Int} {tgt : Nat} (hd : decode μ.2.1 pc = .ok (.ifCond .eq off, 3)) (ht : (pc : Int) + off = (tgt : Int)) (hx : sm x) (kt : x = 0 → G Γ μ Ret kc ks tgt L st w) (kf : ¬ (x = 0) → G Γ μ Ret kc ks (pc + 3) L st w) : G Γ μ Ret kc ks pc L (vI x :: st) w := by
  intro p e R s m args below meth c H locs Q ls C r P S o
  have e1 : (iI x < 0 ↔ x < 0) ∧ (0 < iI x ↔ 0 < x) ∧ (iI x ≤ 0 ↔ x ≤ 0) ∧ (0 ≤ iI x ↔ 0 ≤ x) ∧ (iI x = 0 ↔ x = 0) := by
    have hy : sm 0 := by decide
    rw [← iI_0]
    exact ⟨iI_lt hx hy, iI_lt hy hx, iI_le hx hy, iI_le hy hx, iI_eq hx hy⟩
  exact lv_if_eq C.1 C.2.1 hd ht (fun q => kt (by simpa only [e1.1, e1.2.1, e1.2.2.1, e1.2.2.2.1, e1.2.2.2.2, ne_eq] using q) p e R s m args below meth c H locs Q ls C r P S o) (fun q => kf (by simpa only [e1.1, e1.2.1, e1.2.2.1, e1.2.2.2.1, e1.2.2.2.2, ne_eq] using q) p e R s m args below meth c H locs Q ls C r P S o)
theorem G_icmp_eq {x y off : Int} {tgt : Nat} (hd : decode μ.2.1 pc = .ok (.if_icmp .eq off, 3)) (ht : (pc : Int) + off = (tgt : Int)) (hx : sm x) (hy : sm y) (kt : x = y → G Γ μ Ret kc ks tgt L st w) (kf : ¬ (x = y) → G Γ μ Ret kc ks (pc + 3) L st w) : G Γ μ Ret kc ks pc L (vI y :: vI x :: st) w := by
  intro p e R s m args below meth c H locs Q ls C r P S o
  have e1 : (iI x < iI y ↔ x < y) ∧ (iI y < iI x ↔ y < x) ∧ (iI x ≤ iI y ↔ x ≤ y) ∧ (iI y ≤ iI x ↔ y ≤ x) ∧ (iI x = iI y ↔ x = y) := by
    skip
    skip
    exact ⟨iI_lt hx hy, iI_lt hy hx, iI_le hx hy, iI_le hy hx, iI_eq hx hy⟩
  exact lv_icmp_eq C.1 C.2.1 hd ht (fun q => kt (by simpa only [e1.1, e1.2.1, e1.2.2.1, e1.2.2.2.1, e1.2.2.2.2, ne_eq] using q) p e R s m args below meth c H locs Q ls C r P S o) (fun q => kf (by simpa only [e1.1, e1.2.1, e1.2.2.1, e1.2.2.2.1, e1.2.2.2.2, ne_eq] using q) p e R s m args below meth c H locs Q ls C r P S o)
theorem G_if_ne {x off : Int} {tgt : Nat} (hd : decode μ.2.1 pc = .ok (.ifCond .ne off, 3)) (ht : (pc : Int) + off = (tgt : Int)) (hx : sm x) (kt : x ≠ 0 → G Γ μ Ret kc ks tgt L st w) (kf : x = 0 → G Γ μ Ret kc ks (pc + 3) L st w) : G Γ μ Ret kc ks pc L (vI x :: st) w := by
  intro p e R s m args below meth c H locs Q ls C r P S o
  have e1 : (iI x < 0 ↔ x < 0) ∧ (0 < iI x ↔ 0 < x) ∧ (iI x ≤ 0 ↔ x ≤ 0) ∧ (0 ≤ iI x ↔ 0 ≤ x) ∧ (iI x = 0 ↔ x = 0) := by
    have hy : sm 0 := by decide
    rw [← iI_0]
    exact ⟨iI_lt hx hy, iI_lt hy hx, iI_le hx hy, iI_le hy hx, iI_eq hx hy⟩
  exact lv_if_ne C.1 C.2.1 hd ht (fun q => kt (by simpa only [e1.1, e1.2.1, e1.2.2.1, e1.2.2.2.1, e1.2.2.2.2, ne_eq] using q) p e R s m args below meth c H locs Q ls C r P S o) (fun q => kf (by simpa only [e1.1, e1.2.1, e1.2.2.1, e1.2.2.2.1, e1.2.2.2.2, ne_eq] using q) p e R s m args below meth c H locs Q ls C r P S o)
theorem G_icmp_ne {x y off : Int} {tgt : Nat} (hd : decode μ.2.1 pc = .ok (.if_icmp .ne off, 3)) (ht : (pc : Int) + off = (tgt : Int)) (hx : sm x) (hy : sm y) (kt : x ≠ y → G Γ μ Ret kc ks tgt L st w) (kf : x = y → G Γ μ Ret kc ks (pc + 3) L st w) : G Γ μ Ret kc ks pc L (vI y :: vI x :: st) w := by
  intro p e R s m args below meth c H locs Q ls C r P S o
  have e1 : (iI x < iI y ↔ x < y) ∧ (iI y < iI x ↔ y < x) ∧ (iI x ≤ iI y ↔ x ≤ y) ∧ (iI y ≤ iI x ↔ y ≤ x) ∧ (iI x = iI y ↔ x = y) := by
    skip
    skip
    exact ⟨iI_lt hx hy, iI_lt hy hx, iI_le hx hy, iI_le hy hx, iI_eq hx hy⟩
  exact lv_icmp_ne C.1 C.2.1 hd ht (fun q => kt (by simpa only [e1.1, e1.2.1, e1.2.2.1, e1.2.2.2.1, e1.2.2.2.2, ne_eq] using q) p e R s m args below meth c H locs Q ls C r P S o) (fun q => kf (by simpa only [e1.1, e1.2.1, e1.2.2.1, e1.2.2.2.1, e1.2.2.2.2, ne_eq] using q) p e R s m args below meth c H locs Q ls C r P S o)
-- longs
abbrev sm8 (z : Int) : Prop := -9223372036854775808 ≤ z ∧ z < 9223372036854775808
theorem lI_add (a b : Int) : lI a + lI b = lI (a + b) := (Int64.ofInt_add a b).symm
theorem lI_sub (a b : Int) : lI a - lI b = lI (a - b) := (Int64.ofInt_sub a b).symm
theorem lI_mul (a b : Int) : lI a * lI b = lI (a * b) := (Int64.ofInt_mul a b).symm
theorem lI_div {a b : Int} (ha : sm8 a) (hb : sm8 b) : lI a / lI b = lI (a.tdiv b) := (Int64.ofInt_tdiv (by have := ha.1; show (-9223372036854775808 : Int) ≤ a; omega) (by have := ha.2; show a ≤ (9223372036854775807 : Int); omega) (by have := hb.1; show (-9223372036854775808 : Int) ≤ b; omega) (by have := hb.2; show b ≤ (9223372036854775807 : Int); omega)).symm
theorem lI_toInt {z : Int} (h : sm8 z) : (lI z).toInt = z := Int64.toInt_ofInt_of_le (by have := h.1; omega) (by have := h.2; omega)
theorem lI_ne0 {z : Int} (h : sm8 z) (h0 : z ≠ 0) : ¬ lI z = 0 := fun q => h0 (by
  have e := congrArg Int64.toInt q
  rw [lI_toInt h] at e
  exact e)
theorem G_lconst {n : Fin 2} (hd : decode μ.2.1 pc = .ok (.lconst n, 1)) (k : G Γ μ Ret kc ks (pc + 1) L (vL (n.val : Int) :: st) w) : G Γ μ Ret kc ks pc L st w :=
  fun p e R s m args below meth c H locs Q ls C r P S o => lv_lconst (v := lI (n.val : Int)) C.1 C.2.1 hd (by match n with | 0 => decide +kernel | 1 => decide +kernel) (k p e R s m args below meth c H locs Q ls C r P S o)
theorem G_ldc2 {n : Int} {i : Nat} (hd : decode μ.2.1 pc = .ok (.ldc2_w i, 3)) (hc : Cond.constantLong μ.1.cls i (lI n) ∈ TB) (k : G Γ μ Ret kc ks (pc + 3) L (vL n :: st) w) : G Γ μ Ret kc ks pc L st w :=
  fun p e R s m args below meth c H locs Q ls C r P S o => lv_ldc2 C.1 C.2.1 C.2.2.2.1 (C.2.2.2.2.1 _ hc) hd (k p e R s m args below meth c H locs Q ls C r P S o)
theorem G_ladd {x y : Int} (hd : decode μ.2.1 pc = .ok (.ladd, 1)) (k : G Γ μ Ret kc ks (pc + 1) L (vL (x + y) :: st) w) : G Γ μ Ret kc ks pc L (vL y :: vL x :: st) w :=
  fun p e R s m args below meth c H locs Q ls C r P S o => lv_ladd C.1 C.2.1 hd (by rw [lI_add]; exact k p e R s m args below meth c H locs Q ls C r P S o)
theorem G_lmul {x y : Int} (hd : decode μ.2.1 pc = .ok (.lmul, 1)) (k : G Γ μ Ret kc ks (pc + 1) L (vL (x * y) :: st) w) : G Γ μ Ret kc ks pc L (vL y :: vL x :: st) w :=
  fun p e R s m args below meth c H locs Q ls C r P S o => lv_lmul C.1 C.2.1 hd (by rw [lI_mul]; exact k p e R s m args below meth c H locs Q ls C r P S o)
theorem G_ldiv {x y : Int} (hd : decode μ.2.1 pc = .ok (.ldiv, 1)) (hx : sm8 x) (hy : sm8 y) (h0 : y ≠ 0) (k : G Γ μ Ret kc ks (pc + 1) L (vL (x.tdiv y) :: st) w) : G Γ μ Ret kc ks pc L (vL y :: vL x :: st) w :=
  fun p e R s m args below meth c H locs Q ls C r P S o => lv_ldiv C.1 C.2.1 hd (lI_ne0 hy h0) (by rw [lI_div hx hy]; exact k p e R s m args below meth c H locs Q ls C r P S o)
theorem G_lrem {x y : Int} (hd : decode μ.2.1 pc = .ok (.lrem, 1)) (hx : sm8 x) (hy : sm8 y) (h0 : y ≠ 0) (k : G Γ μ Ret kc ks (pc + 1) L (vL (x.tmod y) :: st) w) : G Γ μ Ret kc ks pc L (vL y :: vL x :: st) w :=
  fun p e R s m args below meth c H locs Q ls C r P S o => lv_lrem C.1 C.2.1 hd (lI_ne0 hy h0) (by
    have e1 : lI x - lI x / lI y * lI y = lI (x.tmod y) := by rw [lI_div hx hy, lI_mul, lI_sub, Int.tmod_def, Int.mul_comm]
    rw [e1]
    exact k p e R s m args below meth c H locs Q ls C r P S o)
theorem G_i2l {x : Int} (hd : decode μ.2.1 pc = .ok (.i2l, 1)) (hx : sm x) (k : G Γ μ Ret kc ks (pc + 1) L (vL x :: st) w) : G Γ μ Ret kc ks pc L (vI x :: st) w :=
  fun p e R s m args below meth c H locs Q ls C r P S o => lv_i2l (v := lI x) C.1 C.2.1 hd (Int32.toInt64_ofInt (by have := hx.1; show (-2147483648 : Int) ≤ x; omega) (by have := hx.2; show x ≤ (2147483647 : Int); omega)) (k p e R s m args below meth c H locs Q ls C r P S o)
theorem G_l2i {x : Int} (hd : decode μ.2.1 pc = .ok (.l2i, 1)) (k : G Γ μ Ret kc ks (pc + 1) L (vI x :: st) w) : G Γ μ Ret kc ks pc L (vL x :: st) w :=
  fun p e R s m args below meth c H locs Q ls C r P S o => lv_l2i (v := iI x) C.1 C.2.1 hd Int64.toInt32_ofInt (k p e R s m args below meth c H locs Q ls C r P S o)
-- small things
theorem iI_char {z : Int} (h : 0 ≤ z ∧ z < 65536) : ((iI z).toUInt32 % 65536).toInt32 = iI z := by
  obtain ⟨n, rfl⟩ : ∃ n : Nat, z = n := ⟨z.toNat, by omega⟩
  have hn : n < 65536 := by omega
  apply Int32.toBitVec_inj.mp
  simp only [iI, UInt32.toBitVec_toInt32, UInt32.toBitVec_mod, Int32.toBitVec_toUInt32, Int32.toBitVec_ofInt]
  apply BitVec.eq_of_toNat_eq
  simp only [BitVec.toNat_umod, BitVec.toNat_ofInt, UInt32.toNat_toBitVec, UInt32.toNat_ofNat]
  have e1 : ((2 ^ 32 : Nat) : Int) = 4294967296 := by decide
  have e2 : 65536 % 2 ^ 32 = 65536 := by decide
  rw [e1, e2]
  omega
theorem G_i2c {x : Int} (hd : decode μ.2.1 pc = .ok (.i2c, 1)) (hx : 0 ≤ x ∧ x < 65536) (k : G Γ μ Ret kc ks (pc + 1) L (vI x :: st) w) : G Γ μ Ret kc ks pc L (vI x :: st) w :=
  fun p e R s m args below meth c H locs Q ls C r P S o => lv_i2c (v := iI x) C.1 C.2.1 hd (iI_char hx) (k p e R s m args below meth c H locs Q ls C r P S o)
def zushr (a b : Int) : Int := ((iI a).toUInt32 >>> ((iI b).toUInt32 &&& Int32.toUInt32 31)).toInt32.toInt
theorem G_iushr {x y : Int} (hd : decode μ.2.1 pc = .ok (.iushr, 1)) (k : G Γ μ Ret kc ks (pc + 1) L (vI (zushr x y) :: st) w) : G Γ μ Ret kc ks pc L (vI y :: vI x :: st) w :=
  fun p e R s m args below meth c H locs Q ls C r P S o => lv_iushr C.1 C.2.1 hd rfl (by have h := k p e R s m args below meth c H locs Q ls C r P S o; unfold vI zushr at h; rw [iI_of] at h; exact h)
theorem G_tableIn {dflt lo hi : Int} {offs : Array Int} {len : Nat} {z off : Int} {tgt : Nat} (hd : decode μ.2.1 pc = .ok (.tableswitch dflt lo hi offs, len)) (hz : sm z) (h1 : ¬ z < lo) (h2 : ¬ hi < z) (ho : offs[(z - lo).toNat]? = some off) (ht : (pc : Int) + off = (tgt : Int)) (k : G Γ μ Ret kc ks tgt L st w) : G Γ μ Ret kc ks pc L (vI z :: st) w :=
  fun p e R s m args below meth c H locs Q ls C r P S o => lv_tableIn C.1 C.2.1 hd (by rw [iI_toInt hz]; exact h1) (by rw [iI_toInt hz]; exact h2) (by rw [iI_toInt hz]; exact ho) ht (k p e R s m args below meth c H locs Q ls C r P S o)
theorem G_tableOut {dflt lo hi : Int} {offs : Array Int} {len : Nat} {z : Int} {tgt : Nat} (hd : decode μ.2.1 pc = .ok (.tableswitch dflt lo hi offs, len)) (hz : sm z) (h : z < lo ∨ hi < z) (ht : (pc : Int) + dflt = (tgt : Int)) (k : G Γ μ Ret kc ks tgt L st w) : G Γ μ Ret kc ks pc L (vI z :: st) w :=
  fun p e R s m args below meth c H locs Q ls C r P S o => lv_tableOut C.1 C.2.1 hd (by rw [iI_toInt hz]; exact h) ht (k p e R s m args below meth c H locs Q ls C r P S o)
theorem G_lookup {dflt : Int} {ps : Array (Int × Int)} {len : Nat} {z off : Int} {tgt : Nat} (hd : decode μ.2.1 pc = .ok (.lookupswitch dflt ps, len)) (hz : sm z) (hp : (ps.toList.zip (ps.toList.drop 1)).all (fun (a, next) => a.1 < next.1) = true) (ho : Op.lookupswitch.offset ps.toList dflt z = off) (ht : (pc : Int) + off = (tgt : Int)) (k : G Γ μ Ret kc ks tgt L st w) : G Γ μ Ret kc ks pc L (vI z :: st) w :=
  fun p e R s m args below meth c H locs Q ls C r P S o => lv_lookup C.1 C.2.1 hd hp (by rw [iI_toInt hz]; exact ho) ht (k p e R s m args below meth c H locs Q ls C r P S o)
theorem G_ifnull {x : Nat} {off : Int} (hd : decode μ.2.1 pc = .ok (.ifnull off, 3)) (k : G Γ μ Ret kc ks (pc + 3) L st w) : G Γ μ Ret kc ks pc L (vR x :: st) w :=
  fun p e R s m args below meth c H locs Q ls C r P S o => lv_ifnull C.1 C.2.1 hd (k p e R s m args below meth c H locs Q ls C r P S o)
theorem G_ifnonnull {x : Nat} {off : Int} {tgt : Nat} (hd : decode μ.2.1 pc = .ok (.ifnonnull off, 3)) (ht : (pc : Int) + off = (tgt : Int)) (k : G Γ μ Ret kc ks tgt L st w) : G Γ μ Ret kc ks pc L (vR x :: st) w :=
  fun p e R s m args below meth c H locs Q ls C r P S o => lv_ifnonnull C.1 C.2.1 hd ht (k p e R s m args below meth c H locs Q ls C r P S o)
theorem G_ret (v : Option Value) (hd : isRet μ.2.1 pc v) (hf : rfit μ.2.2.2.1 v) (hk : kc = μ.2.2.2.2.cells ∧ ks ≤ μ.2.2.2.2.slots) (h : Ret v w) : G Γ μ Ret kc ks pc L v.toList w :=
  fun p e R s m args below meth c H locs Q ls C r P S o => r v w H locs kc ks pc ls h hf (by rw [C.2.2.2.2.2.1]; exact hk.1) (by rw [C.2.2.2.2.2.1]; exact hk.2) P S hd
theorem G_forget {L' : List (Option Value)} (h : ∀ (k : Nat) (v : Value), L'[k]? = some (some v) → L[k]? = some (some v)) (hl : L'.length = L.length) (k : G Γ μ Ret kc ks pc L' st w) : G Γ μ Ret kc ks pc L st w :=
  fun p e R s m args below meth c H locs Q ls C r P S o => k p e R s m args below meth c H locs Q ls C r P S ⟨hl.trans o.1, o.2.1, o.2.2.1, fun i v hv => o.2.2.2 i v (h i v hv)⟩
/-- L' knows no more than L -/
def lle : List (Option Value) → List (Option Value) → Prop
  | [], [] => True
  | none :: a, _ :: b => lle a b
  | some v :: a, x :: b => x = some v ∧ lle a b
  | _, _ => False
theorem lle_at : ∀ (a b : List (Option Value)), lle a b → a.length = b.length ∧ ∀ (k : Nat) (v : Value), a[k]? = some (some v) → b[k]? = some (some v)
  | [], [], _ => ⟨rfl, fun k v h => by simp at h⟩
  | none :: a, x :: b, h => by
    obtain ⟨h1, h2⟩ := lle_at a b h
    refine ⟨by simp [h1], fun k v hk => ?_⟩
    cases k with
    | zero => simp at hk
    | succ k => simpa using h2 k v (by simpa using hk)
  | some u :: a, x :: b, h => by
    obtain ⟨h0, h⟩ := h
    obtain ⟨h1, h2⟩ := lle_at a b h
    refine ⟨by simp [h1], fun k v hk => ?_⟩
    cases k with
    | zero => simpa [h0] using hk
    | succ k => simpa using h2 k v (by simpa using hk)
  | [], _ :: _, h => h.elim
  | none :: _, [], h => h.elim
  | some _ :: _, [], h => h.elim
theorem G_less {L' : List (Option Value)} (h : lle L' L) (k : G Γ μ Ret kc ks pc L' st w) : G Γ μ Ret kc ks pc L st w := G_forget (lle_at L' L h).2 (lle_at L' L h).1 k
theorem G_mono {Ret' : Option Value → Wd → Prop} (h : ∀ v u, Ret v u → Ret' v u) (k : G Γ μ Ret kc ks pc L st w) : G Γ μ Ret' kc ks pc L st w :=
  fun p e R s m args below meth c H locs Q ls C r P S o => k p e R s m args below meth c H locs Q ls C (fun v u H1 l1 kc1 ks1 pc1 ls1 hv => r v u H1 l1 kc1 ks1 pc1 ls1 (h v u hv)) P S o
-- fields
/-- what the tables say of a class -/
def CW (C : String) (T : u_T) (N : Nat) (ty0 : Nat → FieldType) : Prop := (∀ w ∈ u_ws C T N, w ∈ TB) ∧ (∀ k, k < N → parseFieldDescriptor (T k).2.2.1 = some (ty0 k)) ∧ ∀ a, a < N → ∀ b, b < N → a ≠ b → (T a).2.1 ≠ (T b).2.1
/-- own's place idx names field k of class ci -/
def FL (own : String) (idx ci k : Nat) (fin : Bool) (desc : String) : Prop := ∃ (C : String) (T : u_T) (N : Nat) (ty0 : Nat → FieldType), clsL[ci]? = some (C, T, N) ∧ k < N ∧ CW C T N ty0 ∧ (T k).1 = C ∧ (T k).2.2.1 = desc ∧ (T k).2.2.2 = fin ∧ (ksO ci).length = N ∧
  (Cond.fieldLink own idx C (T k).2.1 (T k).2.2.1 ∈ TB ∨ (fin = false ∨ own ≠ C) ∧ ∃ host, Cond.fieldLinkNest own idx C (T k).2.1 (T k).2.2.1 host ∈ NB)
theorem tb_nw {args : Array Value} {s : State} {c : Cond} (h : c.before args s = true) (ho : c.onTables = true) : va_Nw c s := va_tabs ho (rfl : s.vm = s.vm) h
theorem obE_at (Γ : Gm) {ks : List Bool} (f : Int → Int) (g : Int → Value) {k : Nat} (hk : k < ks.length) : ((List.range ks.length).map (obE Γ ks f g))[k]? = some (obE Γ ks f g k) := by
  simp [List.getElem?_map, List.getElem?_range hk]
theorem sh_ne {r : Nat} {x : Sh} (hs : sh w r = some x) : r ≠ 999 := by
  intro q
  subst q
  unfold sh at hs
  split at hs
  · have e : shp[999]? = none := by decide +kernel
    rw [e] at hs
    cases hs
  · cases hs
theorem cv_R (Γ : Gm) {r : Nat} {x : Sh} (hs : sh w r = some x) : cv Γ (vR r) = .ref (Γ.2.2.2.1 + r) := by
  show Value.ref (ad Γ r) = _
  rw [ad, if_neg (sh_ne hs)]
theorem G_get {idx r ci k : Nat} {fin : Bool} {desc : String} {v : Value} (hd : decode μ.2.1 pc = .ok (.getfield idx, 3)) (hf : FL μ.1.cls idx ci k fin desc) (hs : sh w r = some (.inr ci)) (hv : obE Γ (ksO ci) (w.2.1 r) (w.2.2 r) k = cv Γ v) (kk : G Γ μ Ret kc ks (pc + 3) L (v :: st) w) : G Γ μ Ret kc ks pc L (vR r :: st) w := by
  intro p e R s m args below meth c H locs Q ls C r0 P S o
  obtain ⟨Cn, T, N, ty0, hc, hkN, hW, hT1, hT2, hT3, hlen, hl⟩ := hf
  have hK := C.2.2.2.2.2.2.2.1.1
  have hat := wsW_at Γ hs
  have hts := C.2.2.2.2.1
  have h3 := kk p e R s m args below meth c H locs Q ls C r0 P S o
  show W _ _ _ _ _ _ _ _ _ _ _ _ _ _ _ (F0 m pc ls (cv Γ (vR r) :: st.map (cv Γ)))
  rw [cv_R Γ hs]
  have hv' : ((List.range (ksO ci).length).map (obE Γ (ksO ci) (w.2.1 r) (w.2.2 r)))[k]? = some (cv Γ v) := by rw [obE_at Γ _ _ (by rw [hlen]; exact hkN), hv]
  rcases hl with hl | ⟨-, host, hl⟩
  · exact va_get (C := Cn) (T := T) (N := N) (ref := Cn) C.1 C.2.1 hts hW.1 C.2.2.2.1 hK P r hat hc k hkN (hts _ hl) (fun x h9 => by rw [hT1] at h9; exact h9) hv' hd h3
  · exact va_getN (C := Cn) (T := T) (N := N) (ref := Cn) (host := host) C.1 C.2.1 hts hW.1 C.2.2.2.1 hK P r hat hc k hkN ((C.2.2.2.2.2.2.2.1.2.2 _ hl).use rfl) (fun x h9 => by rw [hT1] at h9; exact h9) hv' hd h3
theorem G_getI {idx r ci k : Nat} {fin : Bool} {desc : String} (hd : decode μ.2.1 pc = .ok (.getfield idx, 3)) (hf : FL μ.1.cls idx ci k fin desc) (hs : sh w r = some (.inr ci)) (hk : (ksO ci).getD k false = false) (kk : G Γ μ Ret kc ks (pc + 3) L (vI (wI w r k) :: st) w) : G Γ μ Ret kc ks pc L (vR r :: st) w :=
  G_get (v := vI (wI w r k)) hd hf hs (by unfold obE; rw [hk]; rfl) kk
theorem G_getR {idx r ci k q : Nat} {fin : Bool} {desc : String} (hd : decode μ.2.1 pc = .ok (.getfield idx, 3)) (hf : FL μ.1.cls idx ci k fin desc) (hs : sh w r = some (.inr ci)) (hk : (ksO ci).getD k false = true) (hq : wR w r k = vR q) (kk : G Γ μ Ret kc ks (pc + 3) L (vR q :: st) w) : G Γ μ Ret kc ks pc L (vR r :: st) w :=
  G_get (v := vR q) hd hf hs (by unfold obE; rw [hk, if_pos rfl]; show cv Γ (wR w r k) = _; rw [hq]) kk
/-- the world's list behind a store into place r -/
theorem wsW_set (Γ : Gm) {w w' : Wd} {r : Nat} {x : Sh} (h : sh w r = some x) (hn : w'.1 = w.1) (h1 : ∀ a, a ≠ r → w'.2.1 a = w.2.1 a ∧ w'.2.2 a = w.2.2 a) : (wsW Γ w).set r (Γ.2.2.2.1 + r, cellE Γ x (w'.2.1 r) (w'.2.2 r)) = wsW Γ w' := by
  have hx : r < w.1 ∧ shp[r]? = some x := by
    unfold sh at h
    split at h
    · rename_i q; exact ⟨q, h⟩
    · cases h
  apply List.ext_getElem?
  intro j
  by_cases e : j = r
  · subst e
    have h2 : sh w' j = some x := by unfold sh; rw [hn, if_pos hx.1]; exact hx.2
    rw [wsW_at Γ h2, List.getElem?_set_self (by rw [wsW_len]; exact hx.1)]
  · rw [List.getElem?_set_ne (fun q => e q.symm)]
    simp only [wsW, List.getElem?_map, hn]
    cases hj : (List.range w.1)[j]? with
    | none => rfl
    | some i =>
      obtain ⟨h2, h3⟩ := List.getElem?_eq_some_iff.mp hj
      simp at h3
      subst h3
      simp only [Option.map_some, wsE]
      rw [(h1 j e).1, (h1 j e).2]
theorem obE_set (Γ : Gm) (ks : List Bool) (f f' : Int → Int) (g g' : Int → Value) (k : Nat) (v : Value) (h1 : obE Γ ks f' g' k = v) (h2 : ∀ j : Nat, j ≠ k → f' j = f j ∧ g' j = g j) : ((List.range ks.length).map (obE Γ ks f g)).set k v = (List.range ks.length).map (obE Γ ks f' g') := by
  apply List.ext_getElem?
  intro j
  by_cases e : j = k
  · subst e
    by_cases hj : j < ks.length
    · rw [List.getElem?_set_self (by simpa using hj), obE_at Γ _ _ hj, h1]
    · rw [List.getElem?_eq_none (by simp; omega), List.getElem?_eq_none (by simp; omega)]
  · rw [List.getElem?_set_ne (fun q => e q.symm)]
    simp only [List.getElem?_map]
    cases hj : (List.range ks.length)[j]? with
    | none => rfl
    | some i =>
      obtain ⟨hh, h3⟩ := List.getElem?_eq_some_iff.mp hj
      simp at h3
      subst h3
      simp only [Option.map_some, obE]
      rw [(h2 j e).1, (h2 j e).2]
theorem G_put {idx r ci k : Nat} {fin : Bool} {desc : String} {v : Value} {ty : FieldType} {w' : Wd} (hd : decode μ.2.1 pc = .ok (.putfield idx, 3)) (hf : FL μ.1.cls idx ci k fin desc) (hs : sh w r = some (.inr ci)) (hfin : fin = true → μ.1.name = "<init>" ∧ ∃ T N, clsL[ci]? = some (μ.1.cls, T, N))
    (hty : parseFieldDescriptor desc = some ty) (hn : narrow ty (cv Γ v) = cv Γ v) (hfit : fits ty (cv Γ v) = true) (hw1 : w'.1 = w.1) (hw2 : ∀ a, a ≠ r → w'.2.1 a = w.2.1 a ∧ w'.2.2 a = w.2.2 a) (hw3 : ∀ j : Nat, j ≠ k → w'.2.1 r j = w.2.1 r j ∧ w'.2.2 r j = w.2.2 r j) (hw4 : obE Γ (ksO ci) (w'.2.1 r) (w'.2.2 r) k = cv Γ v)
    (kk : G Γ μ Ret kc ks (pc + 3) L st w') : G Γ μ Ret kc ks pc L (v :: vR r :: st) w := by
  intro p e R s m args below meth c H locs Q ls C r0 P S o
  obtain ⟨Cn, T, N, ty0, hc, hkN, hW, hT1, hT2, hT3, hlen, hl⟩ := hf
  have hK := C.2.2.2.2.2.2.2.1.1
  have hat := wsW_at Γ hs
  have hts := C.2.2.2.2.1
  show W _ _ _ _ _ _ _ _ _ _ _ _ _ _ _ (F0 m pc ls (cv Γ v :: cv Γ (vR r) :: st.map (cv Γ)))
  rw [cv_R Γ hs]
  have hset : (wsW Γ w).set r (Γ.2.2.2.1 + r, .inr (ci, ((List.range (ksO ci).length).map (obE Γ (ksO ci) (w.2.1 r) (w.2.2 r))).set k (cv Γ v))) = wsW Γ w' := by
    rw [obE_set Γ (ksO ci) _ (w'.2.1 r) _ (w'.2.2 r) k (cv Γ v) hw4 hw3]
    exact wsW_set Γ hs hw1 hw2
  have hl1 : k < ((List.range (ksO ci).length).map (obE Γ (ksO ci) (w.2.1 r) (w.2.2 r))).length := by simp; rw [hlen]; exact hkN
  have fin3 : ∀ (H1 : Heap) (locs1 : List Loc), va_P Γ.2.1 clsL ((wsW Γ w).set r (Γ.2.2.2.1 + r, .inr (ci, ((List.range (ksO ci).length).map (obE Γ (ksO ci) (w.2.1 r) (w.2.2 r))).set k (cv Γ v)))) H1 → va_S (Ab Γ) s.heap H1 locs1 → W p Γ.1 e R s m args below meth c H1 locs1 kc ks Q (F0 m (pc + 3) ls (st.map (cv Γ))) := by
    intro H1 locs1 a1 a3
    rw [hset] at a1
    exact kk p e R s m args below meth c H1 locs1 Q ls C r0 a1 ⟨a3, by rw [hw1]; exact S.2⟩ o
  have hty' : parseFieldDescriptor (T k).2.2.1 = some ty := by rw [hT2]; exact hty
  have hsame : ∀ x, s.fieldFound? (T k).1 (T k).2.1 (T k).2.2.1 = some x → s.fieldFound? Cn (T k).2.1 (T k).2.2.1 = some x := fun x h9 => by rw [hT1] at h9; exact h9
  cases hfb : fin with
  | false =>
    rw [hfb] at hT3
    rcases hl with hl | ⟨-, host, hl⟩
    · exact va_put (C := Cn) (T := T) (N := N) (ref := Cn) C.1 C.2.1 hts hW.1 ty0 hW.2.1 hW.2.2 C.2.2.2.1 hK P (wsW_D Γ w) S.1 r hat hc k hkN (hts _ hl) hsame hT3 hty' hn hfit hl1 hd (fun H1 locs1 a1 _ a3 => fin3 H1 locs1 a1 a3)
    · exact va_putN (C := Cn) (T := T) (N := N) (ref := Cn) (host := host) C.1 C.2.1 hts hW.1 ty0 hW.2.1 hW.2.2 C.2.2.2.1 hK P (wsW_D Γ w) S.1 r hat hc k hkN ((C.2.2.2.2.2.2.2.1.2.2 _ hl).use rfl) hsame hT3 hty' hn hfit hl1 hd (fun H1 locs1 a1 _ a3 => fin3 H1 locs1 a1 a3)
  | true =>
    rw [hfb] at hT3
    obtain ⟨hin, T', N', hc'⟩ := hfin hfb
    rcases hl with hl | ⟨hh, host, hl⟩
    · exact va_putF (C := Cn) (T := T) (N := N) (ref := Cn) C.1 C.2.1 hts hW.1 ty0 hW.2.1 hW.2.2 C.2.2.2.1 hK P (wsW_D Γ w) S.1 r hat hc k hkN (hts _ hl) hsame hT3 (C.2.2.2.2.2.2.1.trans hin) (by rw [hT1]; rw [hc] at hc'; cases hc'; rfl) hty' hn hfit hl1 hd (fun H1 locs1 a1 _ a3 => fin3 H1 locs1 a1 a3)
    · rcases hh with hh | hh
      · rw [hfb] at hh; cases hh
      · exact absurd (by rw [hc] at hc'; cases hc'; rfl) hh
/-- an int field -/
theorem G_putI {idx r ci k : Nat} {z : Int} (hd : decode μ.2.1 pc = .ok (.putfield idx, 3)) (hf : FL μ.1.cls idx ci k false "I") (hs : sh w r = some (.inr ci)) (hk : (ksO ci).getD k false = false) (kk : G Γ μ Ret kc ks (pc + 3) L st (stI w r k z)) : G Γ μ Ret kc ks pc L (vI z :: vR r :: st) w :=
  G_put (w' := stI w r k z) (ty := .int) hd hf hs (fun h => by cases h) (by decide +kernel) rfl rfl rfl (fun a ha => ⟨by funext i; show (if a = r ∧ _ then _ else _) = _; rw [if_neg (fun q => ha q.1)], rfl⟩) (fun j hj => ⟨by show (if r = r ∧ ((j : Int) = (k : Int)) then _ else _) = _; rw [if_neg (fun q => hj (by omega))], rfl⟩) (by unfold obE; rw [hk]; show vI (if r = r ∧ (k : Int) = (k : Int) then z else _) = _; rw [if_pos ⟨rfl, rfl⟩]; rfl) kk
/-- a boolean field -/
theorem G_putZ {idx r ci k : Nat} {z : Int} (hd : decode μ.2.1 pc = .ok (.putfield idx, 3)) (hf : FL μ.1.cls idx ci k false "Z") (hs : sh w r = some (.inr ci)) (hk : (ksO ci).getD k false = false) (hz : z = 0 ∨ z = 1) (kk : G Γ μ Ret kc ks (pc + 3) L st (stI w r k z)) : G Γ μ Ret kc ks pc L (vI z :: vR r :: st) w :=
  G_put (w' := stI w r k z) (ty := .boolean) hd hf hs (fun h => by cases h) (by decide +kernel) (by rcases hz with rfl | rfl; exact (by decide +kernel : narrow .boolean (vI 0) = vI 0); exact (by decide +kernel : narrow .boolean (vI 1) = vI 1)) (by rcases hz with rfl | rfl; exact (by decide +kernel : fits .boolean (vI 0) = true); exact (by decide +kernel : fits .boolean (vI 1) = true)) rfl (fun a ha => ⟨by funext i; show (if a = r ∧ _ then _ else _) = _; rw [if_neg (fun q => ha q.1)], rfl⟩) (fun j hj => ⟨by show (if r = r ∧ ((j : Int) = (k : Int)) then _ else _) = _; rw [if_neg (fun q => hj (by omega))], rfl⟩) (by unfold obE; rw [hk]; show vI (if r = r ∧ (k : Int) = (k : Int) then z else _) = _; rw [if_pos ⟨rfl, rfl⟩]; rfl) kk
/-- a reference's field -/
theorem G_putR {idx r ci k q : Nat} {fin : Bool} {desc : String} {ty : FieldType} (hd : decode μ.2.1 pc = .ok (.putfield idx, 3)) (hf : FL μ.1.cls idx ci k fin desc) (hs : sh w r = some (.inr ci)) (hk : (ksO ci).getD k false = true) (hfin : fin = true → μ.1.name = "<init>" ∧ ∃ T N, clsL[ci]? = some (μ.1.cls, T, N))
    (hty : parseFieldDescriptor desc = some ty) (hn : ∀ a, narrow ty (.ref a) = .ref a) (hfit : ∀ a, fits ty (.ref a) = true) (kk : G Γ μ Ret kc ks (pc + 3) L st (stR w r k (vR q))) : G Γ μ Ret kc ks pc L (vR q :: vR r :: st) w :=
  G_put (w' := stR w r k (vR q)) hd hf hs hfin hty (hn _) (hfit _) rfl (fun a ha => ⟨rfl, by funext i; show (if a = r ∧ _ then _ else _) = _; rw [if_neg (fun q => ha q.1)]⟩) (fun j hj => ⟨rfl, by show (if r = r ∧ ((j : Int) = (k : Int)) then _ else _) = _; rw [if_neg (fun q => hj (by omega))]⟩) (by unfold obE; rw [hk, if_pos rfl]; show cv Γ (if r = r ∧ (k : Int) = (k : Int) then vR q else _) = _; rw [if_pos ⟨rfl, rfl⟩]) kk
-- arrays
theorem tn_in {z : Int} {n : Nat} (h : 0 ≤ z ∧ z < (n : Int)) (hn : n < 2147483648) : (iI z).toNatClampNeg = z.toNat ∧ ((z.toNat : Nat) : Int) = z := ⟨iI_nat ⟨by omega, by omega⟩, by omega⟩
theorem G_iald {r n : Nat} {z : Int} (hd : decode μ.2.1 pc = .ok (.iaload, 1)) (hs : sh w r = some (.inl (0, n))) (hz : 0 ≤ z ∧ z < (n : Int)) (hn : n < 2147483648) (kk : G Γ μ Ret kc ks (pc + 1) L (vI (wI w r z) :: st) w) : G Γ μ Ret kc ks pc L (vI z :: vR r :: st) w := by
  intro p e R s m args below meth c H locs Q ls C r0 P S o
  have h := kk p e R s m args below meth c H locs Q ls C r0 P S o
  show W _ _ _ _ _ _ _ _ _ _ _ _ _ _ _ (F0 m pc ls (.int (iI z) :: cv Γ (vR r) :: st.map (cv Γ)))
  rw [cv_R Γ hs]
  refine va_iald C.1 C.2.1 C.2.2.2.2.2.2.2.1.1 P r 0 (wsW_at Γ hs) rfl (iI_in hz hn) hd ?_
  rw [(tn_in hz hn).1, (tn_in hz hn).2]
  exact h
theorem G_cald {r n : Nat} {z : Int} (hd : decode μ.2.1 pc = .ok (.caload, 1)) (hs : sh w r = some (.inl (1, n))) (hz : 0 ≤ z ∧ z < (n : Int)) (hn : n < 2147483648) (kk : G Γ μ Ret kc ks (pc + 1) L (vI (wI w r z) :: st) w) : G Γ μ Ret kc ks pc L (vI z :: vR r :: st) w := by
  intro p e R s m args below meth c H locs Q ls C r0 P S o
  have h := kk p e R s m args below meth c H locs Q ls C r0 P S o
  show W _ _ _ _ _ _ _ _ _ _ _ _ _ _ _ (F0 m pc ls (.int (iI z) :: cv Γ (vR r) :: st.map (cv Γ)))
  rw [cv_R Γ hs]
  refine va_cald C.1 C.2.1 C.2.2.2.2.2.2.2.1.1 P r 1 (wsW_at Γ hs) rfl (iI_in hz hn) hd ?_
  rw [(tn_in hz hn).1, (tn_in hz hn).2]
  exact h
theorem G_alen {r t n : Nat} (hd : decode μ.2.1 pc = .ok (.arraylength, 1)) (hs : sh w r = some (.inl (t, n))) (ht : t < 3) (kk : G Γ μ Ret kc ks (pc + 1) L (vI (n : Int) :: st) w) : G Γ μ Ret kc ks pc L (vR r :: st) w := by
  intro p e R s m args below meth c H locs Q ls C r0 P S o
  have h := kk p e R s m args below meth c H locs Q ls C r0 P S o
  show W _ _ _ _ _ _ _ _ _ _ _ _ _ _ _ (F0 m pc ls (cv Γ (vR r) :: st.map (cv Γ)))
  rw [cv_R Γ hs]
  match t, ht with
  | 0, _ => exact va_alen C.1 C.2.1 C.2.2.2.2.2.2.2.1.1 P r 0 (wsW_at Γ hs) rfl (v := iI n) Int32.ofInt_eq_ofNat.symm hd h
  | 1, _ => exact va_alen C.1 C.2.1 C.2.2.2.2.2.2.2.1.1 P r 1 (wsW_at Γ hs) rfl (v := iI n) Int32.ofInt_eq_ofNat.symm hd h
  | 2, _ => exact va_alen C.1 C.2.1 C.2.2.2.2.2.2.2.1.1 P r 2 (wsW_at Γ hs) rfl (v := iI n) Int32.ofInt_eq_ofNat.symm hd h
theorem G_iast {r n : Nat} {z v : Int} (hd : decode μ.2.1 pc = .ok (.iastore, 1)) (hs : sh w r = some (.inl (0, n))) (hz : 0 ≤ z ∧ z < (n : Int)) (hn : n < 2147483648) (kk : G Γ μ Ret kc ks (pc + 1) L st (stI w r z v)) : G Γ μ Ret kc ks pc L (vI v :: vI z :: vR r :: st) w := by
  intro p e R s m args below meth c H locs Q ls C r0 P S o
  show W _ _ _ _ _ _ _ _ _ _ _ _ _ _ _ (F0 m pc ls (.int (iI v) :: .int (iI z) :: cv Γ (vR r) :: st.map (cv Γ)))
  rw [cv_R Γ hs]
  refine va_iast C.1 C.2.1 C.2.2.2.2.2.2.2.1.1 P (wsW_D Γ w) S.1 r 0 (wsW_at Γ hs) rfl (iI_in hz hn) hd (fun H1 locs1 a1 _ a3 => ?_)
  refine kk p e R s m args below meth c H1 locs1 Q ls C r0 ?_ ⟨a3, S.2⟩ o
  have e1 : cellE Γ (.inl (0, n)) ((stI w r z v).2.1 r) ((stI w r z v).2.2 r) = .inl (Γ.2.2.1 0, n, .inl (upd (fun k => iI (w.2.1 r k)) (iI z).toNatClampNeg (iI v))) := by
    have e0 : (fun k : Nat => iI ((stI w r z v).2.1 r k)) = upd (fun k => iI (w.2.1 r k)) (iI z).toNatClampNeg (iI v) := by
     funext k
     by_cases hk : k = (iI z).toNatClampNeg
     · subst hk
       rw [pk_us, (tn_in hz hn).1, (tn_in hz hn).2]
       show iI (if r = r ∧ z = z then v else _) = _
       rw [if_pos ⟨rfl, rfl⟩]
     · rw [pk_un hk]
       show iI (if r = r ∧ (k : Int) = z then v else _) = _
       rw [if_neg]
       rintro ⟨-, q⟩
       apply hk
       rw [(tn_in hz hn).1]
       omega
    rw [← e0]
    rfl
  rw [← e1, wsW_set (w' := stI w r z v) Γ hs rfl (fun a ha => ⟨by funext i; show (if a = r ∧ _ then _ else _) = _; rw [if_neg (fun q => ha q.1)], rfl⟩)] at a1
  exact a1
theorem iI_nar {z : Int} (h : 0 ≤ z ∧ z < 65536) : vp_nar .char (iI z) = iI z := by
  rw [vp_nar_char]
  obtain ⟨n, rfl⟩ : ∃ n : Nat, z = n := ⟨z.toNat, by omega⟩
  have hn : n < 65536 := by omega
  apply Int32.toBitVec_inj.mp
  simp only [iI, UInt32.toBitVec_toInt32, UInt16.toBitVec_toUInt32, UInt32.toBitVec_toUInt16, Int32.toBitVec_toUInt32, Int32.toBitVec_ofInt]
  apply BitVec.eq_of_toNat_eq
  simp only [BitVec.toNat_setWidth, BitVec.toNat_ofInt]
  have e1 : ((2 ^ 32 : Nat) : Int) = 4294967296 := by decide
  have e2 : (2 : Nat) ^ 16 = 65536 := by decide
  have e3 : (2 : Nat) ^ 32 = 4294967296 := by decide
  rw [e1, e2, e3]
  omega
theorem G_cast {r n : Nat} {z v : Int} (hd : decode μ.2.1 pc = .ok (.castore, 1)) (hs : sh w r = some (.inl (1, n))) (hz : 0 ≤ z ∧ z < (n : Int)) (hn : n < 2147483648) (hv : 0 ≤ v ∧ v < 65536) (kk : G Γ μ Ret kc ks (pc + 1) L st (stI w r z v)) : G Γ μ Ret kc ks pc L (vI v :: vI z :: vR r :: st) w := by
  intro p e R s m args below meth c H locs Q ls C r0 P S o
  show W _ _ _ _ _ _ _ _ _ _ _ _ _ _ _ (F0 m pc ls (.int (iI v) :: .int (iI z) :: cv Γ (vR r) :: st.map (cv Γ)))
  rw [cv_R Γ hs]
  refine va_cast C.1 C.2.1 C.2.2.2.2.2.2.2.1.1 P (wsW_D Γ w) S.1 r 1 (wsW_at Γ hs) rfl (iI_in hz hn) hd (fun H1 locs1 a1 _ a3 => ?_)
  refine kk p e R s m args below meth c H1 locs1 Q ls C r0 ?_ ⟨a3, S.2⟩ o
  have e1 : cellE Γ (.inl (1, n)) ((stI w r z v).2.1 r) ((stI w r z v).2.2 r) = .inl (Γ.2.2.1 1, n, .inl (upd (fun k => iI (w.2.1 r k)) (iI z).toNatClampNeg (vp_nar .char (iI v)))) := by
    rw [iI_nar hv]
    have e0 : (fun k : Nat => iI ((stI w r z v).2.1 r k)) = upd (fun k => iI (w.2.1 r k)) (iI z).toNatClampNeg (iI v) := by
     funext k
     by_cases hk : k = (iI z).toNatClampNeg
     · subst hk
       rw [pk_us, (tn_in hz hn).1, (tn_in hz hn).2]
       show iI (if r = r ∧ z = z then v else _) = _
       rw [if_pos ⟨rfl, rfl⟩]
     · rw [pk_un hk]
       show iI (if r = r ∧ (k : Int) = z then v else _) = _
       rw [if_neg]
       rintro ⟨-, q⟩
       apply hk
       rw [(tn_in hz hn).1]
       omega
    rw [← e0]
    rfl
  rw [← e1, wsW_set (w' := stI w r z v) Γ hs rfl (fun a ha => ⟨by funext i; show (if a = r ∧ _ then _ else _) = _; rw [if_neg (fun q => ha q.1)], rfl⟩)] at a1
  exact a1
theorem G_aald {r n q : Nat} {z : Int} (hd : decode μ.2.1 pc = .ok (.aaload, 1)) (hs : sh w r = some (.inl (2, n))) (hz : 0 ≤ z ∧ z < (n : Int)) (hn : n < 2147483648) (hq : wR w r z = vR q) (kk : G Γ μ Ret kc ks (pc + 1) L (vR q :: st) w) : G Γ μ Ret kc ks pc L (vI z :: vR r :: st) w := by
  intro p e R s m args below meth c H locs Q ls C r0 P S o
  have h := kk p e R s m args below meth c H locs Q ls C r0 P S o
  show W _ _ _ _ _ _ _ _ _ _ _ _ _ _ _ (F0 m pc ls (.int (iI z) :: cv Γ (vR r) :: st.map (cv Γ)))
  rw [cv_R Γ hs]
  refine va_aldq C.1 C.2.1 C.2.2.2.2.2.2.2.1.1 P r 2 (wsW_at Γ hs) rfl (iI_in hz hn) hd ?_
  rw [(tn_in hz hn).1, (tn_in hz hn).2]
  show W _ _ _ _ _ _ _ _ _ _ _ _ _ _ _ (F0 m (pc + 1) ls (va_rf (cvO Γ (wR w r z)) :: st.map (cv Γ)))
  rw [hq]
  exact h
theorem G_aast {r n q : Nat} {z : Int} (hd : decode μ.2.1 pc = .ok (.aastore, 1)) (hs : sh w r = some (.inl (2, n))) (hz : 0 ≤ z ∧ z < (n : Int)) (hn : n < 2147483648) (hq : sh w q = some (.inr 0)) (kk : G Γ μ Ret kc ks (pc + 1) L st (stR w r z (vR q))) : G Γ μ Ret kc ks pc L (vR q :: vI z :: vR r :: st) w := by
  intro p e R s m args below meth c H locs Q ls C r0 P S o
  show W _ _ _ _ _ _ _ _ _ _ _ _ _ _ _ (F0 m pc ls (cv Γ (vR q) :: .int (iI z) :: cv Γ (vR r) :: st.map (cv Γ)))
  rw [cv_R Γ hs, cv_R Γ hq]
  refine va_astq C.1 C.2.1 C.2.2.2.2.2.2.2.1.1 P (wsW_D Γ w) S.1 r 2 q 0 (wsW_at Γ hs) rfl (wsW_at Γ hq) rfl (iI_in hz hn) hd (fun H1 locs1 a1 _ a3 => ?_)
  refine kk p e R s m args below meth c H1 locs1 Q ls C r0 ?_ ⟨a3, S.2⟩ o
  have e1 : cellE Γ (.inl (2, n)) ((stR w r z (vR q)).2.1 r) ((stR w r z (vR q)).2.2 r) = .inl (Γ.2.2.1 2, n, .inr (.inr (.inr (.inr (va_up (fun k => cvO Γ (w.2.2 r k)) (iI z).toNatClampNeg (some (Γ.2.2.2.1 + q))))))) := by
    have e0 : (fun k : Nat => cvO Γ ((stR w r z (vR q)).2.2 r k)) = va_up (fun k => cvO Γ (w.2.2 r k)) (iI z).toNatClampNeg (some (Γ.2.2.2.1 + q)) := by
     funext k
     unfold va_up
     by_cases hk : k = (iI z).toNatClampNeg
     · rw [if_pos hk]
       show cvO Γ (if r = r ∧ (k : Int) = z then vR q else _) = _
       rw [if_pos ⟨rfl, by rw [hk, (tn_in hz hn).1, (tn_in hz hn).2]⟩]
       have := cv_R Γ hq
       show some (ad Γ q) = _
       have e2 : Value.ref (ad Γ q) = .ref (Γ.2.2.2.1 + q) := this
       injection e2 with e2
       rw [e2]
     · rw [if_neg hk]
       show cvO Γ (if r = r ∧ (k : Int) = z then vR q else _) = _
       rw [if_neg]
       rintro ⟨-, q⟩
       apply hk
       rw [(tn_in hz hn).1]
       omega
    rw [← e0]
    rfl
  rw [← e1, wsW_set (w' := stR w r z (vR q)) Γ hs rfl (fun a ha => ⟨rfl, by funext i; show (if a = r ∧ _ then _ else _) = _; rw [if_neg (fun q => ha q.1)]⟩)] at a1
  exact a1
-- the script
theorem G_sld {z : Int} (hμ : μ.1.cls = RL) (hd : decode μ.2.1 pc = .ok (.iaload, 1)) (hz : 0 ≤ z ∧ z < (Γ.2.2.2.2.2.1 : Int)) (hn : Γ.2.2.2.2.2.1 < 2147483648) (kk : G Γ μ Ret kc ks (pc + 1) L (vI (Γ.2.2.2.2.2.2 z.toNat).toInt :: st) w) : G Γ μ Ret kc ks pc L (vI z :: vR 999 :: st) w := by
  intro p e R s m args below meth c H locs Q ls C r0 P S o
  have h := kk p e R s m args below meth c H locs Q ls C r0 P S o
  obtain ⟨hX, hbl, hbA⟩ := C.2.2.2.2.2.2.2.2 hμ
  refine va_sld C.1 C.2.1 hX hbl hbA S.1 (iI_in hz hn) hd ?_
  rw [(tn_in hz hn).1]
  have e1 : vI (Γ.2.2.2.2.2.2 z.toNat).toInt = .int (Γ.2.2.2.2.2.2 z.toNat) := by unfold vI; rw [iI_of]
  rw [e1] at h
  exact h
theorem G_slen (hμ : μ.1.cls = RL) (hd : decode μ.2.1 pc = .ok (.arraylength, 1)) (kk : G Γ μ Ret kc ks (pc + 1) L (vI (Γ.2.2.2.2.2.1 : Int) :: st) w) : G Γ μ Ret kc ks pc L (vR 999 :: st) w := by
  intro p e R s m args below meth c H locs Q ls C r0 P S o
  have h := kk p e R s m args below meth c H locs Q ls C r0 P S o
  obtain ⟨hX, hbl, hbA⟩ := C.2.2.2.2.2.2.2.2 hμ
  refine va_slen C.1 C.2.1 hX hbl hbA S.1 hd ?_
  rw [← Int32.ofInt_eq_ofNat]
  exact h
end
end
section
section
variable {Γ : Gm} {μ : Mu} {Ret : Option Value → Wd → Prop} {kc ks pc : Nat} {L : List (Option Value)} {st : List Value} {w : Wd}
-- making
def nwW (w : Wd) : Wd := (w.1 + 1, (fun a i => if a = w.1 then 0 else w.2.1 a i), fun a i => if a = w.1 then .null else w.2.2 a i)
theorem wsW_new (Γ : Gm) {w : Wd} {x : Sh} (h : shp[w.1]? = some x) : wsW Γ w ++ [(Γ.2.2.2.1 + w.1, cellE Γ x (fun _ => 0) (fun _ => .null))] = wsW Γ (nwW w) := by
  have e1 : wsW Γ (nwW w) = (List.range w.1).map (wsE Γ (nwW w)) ++ [wsE Γ (nwW w) w.1] := by
    show (List.range (w.1 + 1)).map _ = _
    rw [List.range_succ, List.map_append]
    rfl
  rw [e1]
  congr 1
  · apply List.map_congr_left
    intro a ha
    have hl : a < w.1 := List.mem_range.mp ha
    have hne : a ≠ w.1 := by omega
    unfold wsE
    have f1 : (nwW w).2.1 a = w.2.1 a := by funext i; show (if a = w.1 then _ else _) = _; rw [if_neg hne]
    have f2 : (nwW w).2.2 a = w.2.2 a := by funext i; show (if a = w.1 then _ else _) = _; rw [if_neg hne]
    rw [f1, f2]
  · unfold wsE
    have f1 : (nwW w).2.1 w.1 = fun _ => 0 := by funext i; show (if w.1 = w.1 then _ else _) = _; rw [if_pos rfl]
    have f2 : (nwW w).2.2 w.1 = fun _ => .null := by funext i; show (if w.1 = w.1 then _ else _) = _; rw [if_pos rfl]
    rw [f1, f2, List.getD_eq_getElem?_getD, h]
    rfl
/-- how large a heap can be that stands behind a start -/
theorem stand_size {p : Program} {l : Launch} {e : Env} {R : Room} {s : State} {m : MethodId} {args : Array Value} {below : List Frame} {meth : Method} {c : Code} {T : State} {locs : List Loc} {cells slots : Nat} (X : Stand p l e R s m args below meth c T locs cells slots) : T.heap.size ≤ s.heap.size + cells := X.same.2.2.1
/-- the heap's size, by what was made -/
theorem size_of {p : Program} {l : Launch} {e : Env} {R : Room} {s : State} {m : MethodId} {args : Array Value} {below : List Frame} {meth : Method} {c : Code} {T : State} {locs : List Loc} {cells slots : Nat} {H : Heap} {locs' : List Loc} (X : Stand p l e R s m args below meth c T locs cells slots) (hT : T.heap = H) (P : PH Γ w H) (S : SS Γ cells w.1 s H locs') : H.size = Γ.2.2.2.1 + w.1 := by
  have h1 := stand_size X
  rw [hT] at h1
  have h2 := S.2.1
  have h3 := S.1.1
  have h7 := S.2.2
  by_cases h0 : w.1 = 0
  · omega
  · have hk : (wsW Γ w)[w.1 - 1]? = some (wsE Γ w (w.1 - 1)) := by
      simp [wsW, List.getElem?_map, List.getElem?_range (show w.1 - 1 < w.1 by omega)]
    have h4 := (P _ _ hk).lt
    have h5 : (wsE Γ w (w.1 - 1)).1 = Γ.2.2.2.1 + (w.1 - 1) := rfl
    rw [h5] at h4
    omega
/-- the place of a new cell -/
theorem new_at {p : Program} {l : Launch} {e : Env} {R : Room} {s : State} {m : MethodId} {args : Array Value} {below : List Frame} {meth : Method} {c : Code} {T : State} {locs : List Loc} {cells slots q : Nat} {H : Heap} {x : va_E} (X : Stand p l e R s m args below meth c T locs (cells + 1) slots) (hT : T.heap = H) (P : va_P Γ.2.1 clsL (wsW Γ w ++ [(q, x)]) H) (D : va_D (Ab Γ) (wsW Γ w ++ [(q, x)])) (S : s.heap.size + cells = Γ.2.2.2.1 + w.1) : q = Γ.2.2.2.1 + w.1 := by
  have h1 := stand_size X
  rw [hT] at h1
  have hk : (wsW Γ w ++ [(q, x)])[w.1]? = some (q, x) := by
    rw [List.getElem?_append_right (by rw [wsW_len]; exact Nat.le_refl _), wsW_len]
    simp
  have h2 : q < H.size := (P _ _ hk).lt
  have h3 : Γ.2.2.2.1 ≤ q := D.2 _ _ hk
  by_cases h4 : q < Γ.2.2.2.1 + w.1
  · have hr : (wsW Γ w ++ [(q, x)])[q - Γ.2.2.2.1]? = some (wsE Γ w (q - Γ.2.2.2.1)) := by
      rw [List.getElem?_append_left (by rw [wsW_len]; omega)]
      simp [wsW, List.getElem?_map, List.getElem?_range (show q - Γ.2.2.2.1 < w.1 by omega)]
    have h5 := D.1 _ _ _ _ hr hk (by show Γ.2.2.2.1 + (q - Γ.2.2.2.1) = q; omega)
    omega
  · omega
def CN (C : String) (N ci : Nat) (T : u_T) (ty0 : Nat → FieldType) : Prop := clsL[ci]? = some (C, T, N) ∧ CW C T N ty0 ∧ (ksO ci).length = N ∧ Cond.instantiable C N ∈ TB ∧ Cond.initialized C ∈ TB ∧ ∀ j, j < N → defaultValue (ty0 j) = if (ksO ci).getD j false then .null else vI 0
theorem G_new {idx ci N : Nat} {C : String} {T : u_T} {ty0 : Nat → FieldType} (hd : decode μ.2.1 pc = .ok (.new idx, 3)) (hC : CN C N ci T ty0) (hl : Cond.classLink μ.1.cls idx C ∈ TB) (hs : shp[w.1]? = some (.inr ci)) (hr : kc + 1 ≤ μ.2.2.2.2.cells ∧ ks + N ≤ μ.2.2.2.2.slots) (kk : G Γ μ Ret (kc + 1) (ks + N) (pc + 3) L (vR w.1 :: st) (nwW w)) : G Γ μ Ret kc ks pc L st w := by
  intro p e R s m args below meth c H locs Q ls Cx0 r0 P S o
  obtain ⟨hc, hW, hlen, hi, hini, hdf⟩ := hC
  have hts := Cx0.2.2.2.2.1
  have hsz0 : ∀ (u : Nat), (if (ksO ci).getD u false = true then cv Γ Value.null else vI 0) = (if (ksO ci).getD u false = true then .null else vI 0) := fun u => rfl
  refine va_new (C := C) (T := T) (N := N) (ci := ci) (fs := (List.range (ksO ci).length).map (obE Γ (ksO ci) (fun _ => 0) (fun _ => .null))) Cx0.1 Cx0.2.1 hts hW.1 ty0 hW.2.1 Cx0.2.2.2.1 (hts _ hl) (hts _ hi) (hts _ hini) Cx0.2.2.2.2.2.2.2.1.1 P (wsW_D Γ w) S.1 (fun q hq => ?_) hc (fun j hj => ?_) (by rw [Cx0.2.2.2.2.2.1]; exact hr.1) (by rw [Cx0.2.2.2.2.2.1]; exact hr.2) hd (fun q H1 a1 a2 a3 => ?_)
  · show Γ.2.2.2.1 ≤ q
    have := S.2.2
    omega
  · rw [hdf j hj]
    unfold vp_V
    rw [List.getD_eq_getElem?_getD (l := List.map _ _), obE_at Γ _ _ (by rw [hlen]; exact hj)]
    rfl
  · intro T0 hT X
    have hq := new_at X hT a1 a2 S.2.1
    subst hq
    rw [show (Γ.2.2.2.1 + w.1, (Sum.inr (ci, (List.range (ksO ci).length).map (obE Γ (ksO ci) (fun _ => 0) (fun _ => .null))) : va_E)) = (Γ.2.2.2.1 + w.1, cellE Γ (.inr ci) (fun _ => 0) (fun _ => .null)) from rfl, wsW_new Γ hs] at a1
    have h := kk p e R s m args below meth c H1 locs Q ls Cx0 r0 a1 ⟨a3, by have := S.2.1; show s.heap.size + (kc + 1) = Γ.2.2.2.1 + (w.1 + 1); omega, S.2.2⟩ o T0 hT X
    have hlt : w.1 < 999 := by
      have := (List.getElem?_eq_some_iff.mp hs).1
      have e9 : shp.length = 78 := by decide +kernel
      omega
    have e2 : (vR w.1 :: st).map (cv Γ) = .ref (Γ.2.2.2.1 + w.1) :: st.map (cv Γ) := by
      show cv Γ (vR w.1) :: _ = _
      rw [show cv Γ (vR w.1) = Value.ref (ad Γ w.1) from rfl, ad, if_neg (by omega)]
    rw [e2] at h
    exact h
theorem RA_same {s : State} {c1 c2 : ClassId} {ty : FieldType} (h1 : va_RA s c1 ty) (h2 : va_RA s c2 ty) : c1 = c2 := by
  cases ty with
  | object C =>
    obtain ⟨-, -, -, -, -, a⟩ := h1
    obtain ⟨-, -, -, -, -, b⟩ := h2
    exact Option.some.inj (a.symm.trans b)
  | _ => exact Option.some.inj ((show s.vm.findClass _ = some c1 from h1).symm.trans (show s.vm.findClass _ = some c2 from h2))
theorem K_last {D : va_G} {cl : List vw_C} {tys : List (ClassId × FieldType)} {c : ClassId} {ty : FieldType} {s : State} (h : va_K D cl (tys ++ [(c, ty)]) s) : va_RA s c ty :=
  (h.2 tys.length (c, ty) (by simp)).2
theorem G_newarr {t n : Nat} {at0 : ArrayType} {ty : FieldType} (hd : decode μ.2.1 pc = .ok (.newarray at0, 2)) (ht : (t = 0 ∧ ty = .int) ∨ (t = 1 ∧ ty = .char)) (hty : newarray.typeOf at0 = ty) (harr : Cond.arrayClass ty ∈ TB) (hs : shp[w.1]? = some (.inl (t, n))) (hn : n < 100000) (hr : kc + 1 ≤ μ.2.2.2.2.cells ∧ ks + n ≤ μ.2.2.2.2.slots) (kk : G Γ μ Ret (kc + 1) (ks + n) (pc + 2) L (vR w.1 :: st) (nwW w)) : G Γ μ Ret kc ks pc L (vI (n : Int) :: st) w := by
  intro p e R s m args below meth c H locs Q ls Cx0 r0 P S o
  have hts := Cx0.2.2.2.2.1
  have hK := Cx0.2.2.2.2.2.2.2.1.1
  have hz : (iI (n : Int)).toNatClampNeg = n := by rw [iI_nat ⟨by omega, by omega⟩]; omega
  have hK0 : va_RA s (Γ.2.2.1 t) ty := by
    rcases ht with ⟨rfl, rfl⟩ | ⟨rfl, rfl⟩
    · exact (hK.2 0 _ rfl).2
    · exact (hK.2 1 _ rfl).2
  have hcb : n * componentBytes ty ≤ 536870912 := by
    rcases ht with ⟨rfl, rfl⟩ | ⟨rfl, rfl⟩
    · show n * 4 ≤ _; omega
    · show n * 2 ≤ _; omega
  refine va_newa (ty := ty) (a0 := (n, .inl (fun _ => iI 0))) (N' := n) Cx0.1 Cx0.2.1 (by rw [hty]; exact hts _ harr) hty hK P (wsW_D Γ w) S.1 (fun q hq => ?_) (fun cA => ?_) (fun q => ?_) hz hcb (by rw [Cx0.2.2.2.2.2.1]; exact hr.1) (by rw [Cx0.2.2.2.2.2.1]; exact hr.2) hd (fun q cA H1 aK a1 a2 a3 => ?_)
  · show Γ.2.2.2.1 ≤ q
    have := S.2.2
    omega
  · rw [vp_cell_i]
    rcases ht with ⟨rfl, rfl⟩ | ⟨rfl, rfl⟩
    · show arrV cA n (fun _ => .int (iI 0)) = arrV cA n (fun _ => .int 0)
      rw [iI_0]
    · show arrV cA n (fun _ => .int (iI 0)) = arrV cA n (fun _ => .int 0)
      rw [iI_0]
  · have h0 : iI (n : Int) < iI 0 := by rw [iI_0]; exact q
    rw [iI_lt ⟨by omega, by omega⟩ ⟨by omega, by omega⟩] at h0
    omega
  · intro T0 hT X
    have hq := new_at X hT a1 a2 S.2.1
    subst hq
    have hcA : cA = Γ.2.2.1 t := RA_same (K_last aK) hK0
    subst hcA
    have e0 : cellE Γ (.inl (t, n)) (fun _ => 0) (fun _ => .null) = .inl (Γ.2.2.1 t, n, .inl (fun _ => iI 0)) := by
      rcases ht with ⟨rfl, rfl⟩ | ⟨rfl, rfl⟩ <;> rfl
    rw [← e0, wsW_new Γ hs] at a1
    have h := kk p e R s m args below meth c H1 locs Q ls Cx0 r0 a1 ⟨a3, by have := S.2.1; show s.heap.size + (kc + 1) = Γ.2.2.2.1 + (w.1 + 1); omega, S.2.2⟩ o T0 hT X
    have hlt : w.1 < 999 := by
      have := (List.getElem?_eq_some_iff.mp hs).1
      have e9 : shp.length = 78 := by decide +kernel
      omega
    have e2 : (vR w.1 :: st).map (cv Γ) = .ref (Γ.2.2.2.1 + w.1) :: st.map (cv Γ) := by
      show cv Γ (vR w.1) :: _ = _
      rw [show cv Γ (vR w.1) = Value.ref (ad Γ w.1) from rfl, ad, if_neg (by omega)]
    rw [e2] at h
    exact h
theorem G_newobj {n idx : Nat} (hd : decode μ.2.1 pc = .ok (.anewarray idx, 3)) (hl : Cond.classLink μ.1.cls idx RX0 ∈ TB) (hs : shp[w.1]? = some (.inl (2, n))) (hn : n < 100000) (hr : kc + 1 ≤ μ.2.2.2.2.cells ∧ ks + n ≤ μ.2.2.2.2.slots) (kk : G Γ μ Ret (kc + 1) (ks + n) (pc + 3) L (vR w.1 :: st) (nwW w)) : G Γ μ Ret kc ks pc L (vI (n : Int) :: st) w := by
  intro p e R s m args below meth c H locs Q ls Cx0 r0 P S o
  have hts := Cx0.2.2.2.2.1
  have hK := Cx0.2.2.2.2.2.2.2.1.1
  have hz : (iI (n : Int)).toNatClampNeg = n := by rw [iI_nat ⟨by omega, by omega⟩]; omega
  refine va_newq (C := RX0) (N' := n) Cx0.1 Cx0.2.1 Cx0.2.2.2.1 (hts _ hl) Cx0.2.2.2.2.2.2.2.1.2.1 hK P (wsW_D Γ w) S.1 (fun q hq => ?_) (fun q => ?_) hz (by omega) (by rw [Cx0.2.2.2.2.2.1]; exact hr.1) (by rw [Cx0.2.2.2.2.2.1]; exact hr.2) hd (fun q cA H1 aK a1 a2 a3 => ?_)
  · show Γ.2.2.2.1 ≤ q
    have := S.2.2
    omega
  · have h0 : iI (n : Int) < iI 0 := by rw [iI_0]; exact q
    rw [iI_lt ⟨by omega, by omega⟩ ⟨by omega, by omega⟩] at h0
    omega
  · intro T0 hT X
    have hq := new_at X hT a1 a2 S.2.1
    subst hq
    have hcA : cA = Γ.2.2.1 2 := RA_same (K_last aK) (hK.2 2 _ rfl).2
    subst hcA
    have e0 : cellE Γ (.inl (2, n)) (fun _ => 0) (fun _ => .null) = .inl (Γ.2.2.1 2, n, .inr (.inr (.inr (.inr (fun _ => none))))) := rfl
    rw [← e0, wsW_new Γ hs] at a1
    have h := kk p e R s m args below meth c H1 locs Q ls Cx0 r0 a1 ⟨a3, by have := S.2.1; show s.heap.size + (kc + 1) = Γ.2.2.2.1 + (w.1 + 1); omega, S.2.2⟩ o T0 hT X
    have hlt : w.1 < 999 := by
      have := (List.getElem?_eq_some_iff.mp hs).1
      have e9 : shp.length = 78 := by decide +kernel
      omega
    have e2 : (vR w.1 :: st).map (cv Γ) = .ref (Γ.2.2.2.1 + w.1) :: st.map (cv Γ) := by
      show cv Γ (vR w.1) :: _ = _
      rw [show cv Γ (vR w.1) = Value.ref (ad Γ w.1) from rfl, ad, if_neg (by omega)]
    rw [e2] at h
    exact h
theorem cat_sum (Γ : Gm) (st : List Value) : ((st.map (cv Γ)).map fun v => v.category).sum = (st.map fun v => v.category).sum := by
  rw [List.map_map]
  congr 1
  apply List.map_congr_left
  intro v _
  exact cv_cat Γ v
theorem G_obj {idx r : Nat} (hd : decode μ.2.1 pc = .ok (.invokespecial idx, 3)) (h1 : Cond.methodLink μ.1.cls idx objectInit ∈ TB) (h2 : Cond.instanceMethod objectInit ∈ TB) (h3 : Cond.code objectInit ⟨#[0xb1]⟩ 1 none ∈ TB) (hs : ∃ x, sh w r = some x) (hr : 1 ≤ μ.2.2.2.2.frames ∧ (st.map fun v => v.category).sum + 12 ≤ μ.2.2.2.2.locals) (kk : G Γ μ Ret kc ks (pc + 3) L st w) : G Γ μ Ret kc ks pc L (vR r :: st) w := by
  intro p e R s m args below meth c H locs Q ls C r0 P S o
  have h := kk p e R s m args below meth c H locs Q ls C r0 P S o
  have hts := C.2.2.2.2.1
  obtain ⟨x, hx⟩ := hs
  show W _ _ _ _ _ _ _ _ _ _ _ _ _ _ _ (F0 m pc ls (cv Γ (vR r) :: st.map (cv Γ)))
  rw [cv_R Γ hx]
  refine W.objInit C.1 C.2.1 C.2.2.2.1 (hts _ h1) (hts _ h2) (hts _ h3) rfl (by rw [C.2.2.1]; exact o.2.1) rfl hd (by rw [C.2.2.2.2.2.1]; exact hr.1) (by rw [C.2.2.2.2.2.1, cat_sum]; have := hr.2; show 0 + _ + 12 ≤ _; omega) ?_
  exact h
-- calls
/-- a contract's end -/
def SpQ (Γ : Gm) (μ : Mu) (w : Wd) (Q : Option Value → Wd → Prop) : Array Value → State → Outcome → State → Prop := fun _ st oc t => (∃ (v : Option Value) (w' : Wd), oc = .returned (v.map (cv Γ)) ∧ Q v w' ∧ PH Γ w' t.heap ∧ w'.1 = w.1 + μ.2.2.2.2.cells) ∧ va_F (Ab Γ) st t
/-- a method's contract: at these arguments and this world -/
def Sp (Γ : Gm) (μ : Mu) (as : List Value) (w : Wd) (Q : Option Value → Wd → Prop) : Prop :=
  Met Γ.1 μ.1 (wsM μ) μ.2.2.2.2 (va_Pc (as.map (cv Γ)) (fun U => PU Γ w U ∧ U.heap.size = Γ.2.2.2.1 + w.1)) (SpQ Γ μ w Q) μ.2.2.2.2.cells μ.2.2.2.2.slots (Ab Γ)
theorem args_LO (Γ : Gm) : ∀ (as : List Value) (i : Nat), (∀ v ∈ as, v.category = 1) → ∀ (k : Nat) (v : Value), as[k]? = some v → (i + k, cv Γ v) ∈ lv_args i (as.map (cv Γ)) := by
  intro as
  induction as with
  | nil => intro i _ k v h; simp at h
  | cons a as ih =>
    intro i hc k v h
    have ha : (cv Γ a).category = 1 := by rw [cv_cat]; exact hc a List.mem_cons_self
    show (i + k, cv Γ v) ∈ (i, cv Γ a) :: lv_args (if (cv Γ a).category = 2 then i + 2 else i + 1) (as.map (cv Γ))
    rw [if_neg (by rw [ha]; decide)]
    cases k with
    | zero =>
      simp only [List.getElem?_cons_zero, Option.some.injEq] at h
      subst h
      exact List.mem_cons_self
    | succ k =>
      refine List.mem_cons_of_mem _ ?_
      have := ih (i + 1) (fun v hv => hc v (List.mem_cons_of_mem _ hv)) k v (by simpa using h)
      rw [show i + (k + 1) = i + 1 + k by omega]
      exact this
theorem sl_len (Γ : Gm) : ∀ (as : List Value), (∀ v ∈ as, v.category = 1) → (lg_sl (as.map (cv Γ))).length = as.length := by
  intro as
  induction as with
  | nil => intro _; rfl
  | cons a as ih =>
    intro hc
    have ha : (cv Γ a).category = 1 := by rw [cv_cat]; exact hc a List.mem_cons_self
    have := ih (fun v hv => hc v (List.mem_cons_of_mem _ hv))
    unfold lg_sl at this ⊢
    simp only [List.map_cons, List.flatMap_cons, List.length_append, List.length_cons]
    rw [if_neg (by rw [ha]; decide), this]
    simp
    omega
theorem Sp_intro {as : List Value} {Q : Option Value → Wd → Prop} (hy : plainName μ.1.cls = true) (hcl : μ.1.cls ≠ RL) (hm : as.length ≤ μ.2.2.1) (hc : ∀ v ∈ as, v.category = 1) (k : G Γ μ Q 0 0 0 (as.map some ++ List.replicate (μ.2.2.1 - as.length) none) [] w) : Sp Γ μ as w Q := by
  refine Met.ofW (cc := μ.2.1) (maxL := μ.2.2.1) (ret := μ.2.2.2.1) hy rfl ?_
  intro p e s m args below meth c s₁ B hml hv
  obtain ⟨rfl, hU, hsz⟩ := hv
  have hown : s.vm.findClass μ.1.cls = some m.cls := findClass_of_methodNamed B.named
  have hts : ∀ w ∈ TB, w.before (as.map (cv Γ)).toArray s = true := fun w hw => atoms_spec (ws := wsM μ) B.pre w (List.mem_cons_of_mem _ hw)
  have hl := lv_entry (as.map (cv Γ)) (n := μ.2.2.1) (by rw [sl_len Γ as hc]; exact hm)
  rw [lg_entry_eq]
  generalize (lg_sl (as.map (cv Γ)) ++ List.replicate (μ.2.2.1 - (lg_sl (as.map (cv Γ))).length) Slot.unset).toArray = ls at hl ⊢
  refine k p e μ.2.2.2.2 s m _ below meth c s.heap [] _ ls ⟨B.exec, B.bytes, hml, hown, hts, rfl, (name_of_methodNamed B.named B.method).1, hU.2, fun h => absurd h hcl⟩ ?_ hU.1 ⟨va_S.rf, by rw [hsz]; omega, by rw [hsz]; omega⟩ ⟨by simp; omega, hl.1, hl.2.1, fun i v hi => ?_⟩
  · intro v w' H locs kc ks pc ls' hQ hf hkc hks P S hd
    have hlocks := B.notSynchronized
    have hw' : w'.1 = w.1 + μ.2.2.2.2.cells := by have h1 := S.2.1; rw [hsz, hkc] at h1; omega
    subst hkc
    refine W.widen (k := μ.2.2.2.2.cells) (n := μ.2.2.2.2.slots) (Nat.le_refl _) hks ?_
    have fin (t : State) (ht : t.heap = H) : (∃ (v' : Option Value) (w'' : Wd), Outcome.returned (v.map (cv Γ)) = .returned (v'.map (cv Γ)) ∧ Q v' w'' ∧ PH Γ w'' t.heap ∧ w''.1 = w.1 + μ.2.2.2.2.cells) ∧ va_F (Ab Γ) s t := ⟨⟨v, w', rfl, hQ, by rw [ht]; exact P, hw'⟩, S.1.F ht⟩
    cases v with
    | none =>
      cases hrt : μ.2.2.2.1 with
      | none => exact W.vret B.exec B.bytes (B.returns.trans hrt) (fun t ht _ => fin t ht) S.1.2.2 hd
      | some ty => rw [hrt] at hf; cases ty <;> exact hf.elim
    | some v =>
      cases v with
      | int x =>
        cases hrt : μ.2.2.2.1 with
        | none => rw [hrt] at hf; exact hf.elim
        | some ty =>
          rw [hrt] at hf
          cases ty with
          | int => exact W.iret B.exec B.bytes (B.returns.trans hrt) (fun t ht _ => fin t ht) S.1.2.2 hd
          | boolean => exact W.zret B.exec B.bytes (B.returns.trans hrt) (by rcases hf with rfl | rfl <;> decide +kernel) (fun t ht _ => fin t ht) S.1.2.2 hd
          | _ => exact hf.elim
      | ref r =>
        cases hrt : μ.2.2.2.1 with
        | none => rw [hrt] at hf; exact hf.elim
        | some ty =>
          rw [hrt] at hf
          cases ty with
          | object C => exact W.aret (v := .ref (ad Γ r)) B.exec B.bytes (B.returns.trans hrt) (Or.inl ⟨_, rfl⟩) (Or.inr ⟨_, rfl⟩) (fun t ht _ => fin t ht) S.1.2.2 hd
          | array C => exact W.aret (v := .ref (ad Γ r)) B.exec B.bytes (B.returns.trans hrt) (Or.inr ⟨_, rfl⟩) (Or.inr ⟨_, rfl⟩) (fun t ht _ => fin t ht) S.1.2.2 hd
          | _ => exact hf.elim
      | null =>
        cases hrt : μ.2.2.2.1 with
        | none => rw [hrt] at hf; exact hf.elim
        | some ty =>
          rw [hrt] at hf
          cases ty with
          | object C => exact W.aret (v := .null) B.exec B.bytes (B.returns.trans hrt) (Or.inl ⟨_, rfl⟩) (Or.inl rfl) (fun t ht _ => fin t ht) S.1.2.2 hd
          | _ => exact hf.elim
      | _ => exact hd.elim
  · by_cases hi2 : i < as.length
    · have h1 : as[i]? = some v := by
        rw [List.getElem?_append_left (by simpa using hi2)] at hi
        simp only [List.getElem?_map, Option.map_eq_some_iff] at hi
        obtain ⟨a, ha, hb⟩ := hi
        cases hb
        exact ha
      have := args_LO Γ as 0 hc i v h1
      rw [Nat.zero_add] at this
      exact hl.2.2 (i, cv Γ v) this
    · rw [List.getElem?_append_right (by simpa using Nat.le_of_not_lt hi2)] at hi
      have := List.mem_of_getElem? hi
      have := List.eq_of_mem_replicate this
      cases this
/-- behind a call -/
theorem call_on {y : Mu} {p : Program} {e : Env} {R : Room} {s : State} {m : MethodId} {args : Array Value} {below : List Frame} {meth : Method} {c : Code} {H : Heap} {locs : List Loc} {Q : State → Prop} {ls : Array Slot} {st0 : List Value} {w : Wd} {Qv : Option Value → Wd → Prop} {a : Array Value} {rest : List Value}
    (hr : va_Run p Γ.1 e R s m args below meth c H locs kc ks y.2.2.2.2.cells y.2.2.2.2.slots (F0 m pc ls st0) rest (SpQ Γ y w Qv a) (Ab Γ)) (S : SS Γ kc w.1 s H locs)
    (kk : ∀ (v : Option Value) (w' : Wd) (H1 : Heap) (locs1 : List Loc), Qv v w' → PH Γ w' H1 → SS Γ (kc + y.2.2.2.2.cells) w'.1 s H1 locs1 → W p Γ.1 e R s m args below meth c H1 locs1 (kc + y.2.2.2.2.cells) (ks + y.2.2.2.2.slots) Q (F0 m (pc + 3) ls ((v.map (cv Γ)).toList ++ rest))) : W p Γ.1 e R s m args below meth c H locs kc ks Q (F0 m pc ls st0) := by
  intro T hT X
  obtain ⟨v, st₀, t, T', Lc, h0, X', hL, e1, e2, ⟨⟨v', w', hv, hq, hP, hn⟩, hz, hk⟩, stp⟩ := hr T hT X
  cases hv
  rw [h0] at hz hk
  obtain ⟨t2, a1, b1⟩ := kk v' w' T'.heap (locs ++ Lc) hq (by rw [e1]; exact hP) ⟨⟨Nat.le_trans S.1.1 (by rw [e1]; exact hz), fun q h1 h2 => by rw [e1, hk q (Nat.lt_of_lt_of_le h1 S.1.1) h2]; exact S.1.2.1 q h1 h2, fun q hq => by
    rcases List.mem_append.mp hq with h | h
    · exact S.1.2.2 q h
    · exact hL q h⟩, by have := S.2.1; omega, S.2.2⟩ T' rfl X'
  exact ⟨t2, stp t2 a1, b1⟩
theorem blind (as : List Value) : FrameBlind (va_Pc (as.map (cv Γ)) (fun U => PU Γ w U ∧ U.heap.size = Γ.2.2.2.1 + w.1)) := fun a U g mk q => by
  obtain ⟨h1, ⟨h2, h3⟩, h4⟩ := q
  exact ⟨h1, ⟨h2, PK.same (u := U) (U := U.calling g mk a) rfl h3⟩, h4⟩
/-- what the tables say of a method -/
def MC (y : Mu) (n : Nat) : Prop := Cond.code y.1 y.2.1 y.2.2.1 y.2.2.2.1 ∈ TB ∧ Cond.initialized y.1.cls ∈ TB ∧ (y.1.cls ≠ "java/lang/invoke/MethodHandle" ∧ y.1.cls ≠ "java/lang/invoke/VarHandle" ∧ (parseMethodDescriptor y.1.desc).map (fun d => d.parameters.length) = some n)
def MV (y : Mu) (n : Nat) : Prop := MC y n ∧ Cond.instanceMethod y.1 ∈ TB ∧ Cond.selects y.1.cls y.1 y.1 ∈ TB
def MS (y : Mu) (n : Nat) : Prop := MC y n ∧ Cond.static y.1 ∈ TB
def MI (y : Mu) (n : Nat) : Prop := MC y n ∧ Cond.instanceMethod y.1 ∈ TB ∧ y.1.name = "<init>" ∧ y.2.2.2.1 = none
def ML (own : String) (idx : Nat) (y : Mu) : Prop := Cond.methodLink own idx y.1 ∈ TB ∨ ∃ host, Cond.methodLinkNest own idx y.1 host ∈ NB
/-- the callee's room fits -/
def RF (μ y : Mu) (kc ks : Nat) (st : List Value) : Prop := (y.2.2.2.2.frames + 1 ≤ μ.2.2.2.2.frames ∧ 8 + (y.2.2.1 + 11) + y.2.2.2.2.locals ≤ μ.2.2.2.2.locals) ∧ (kc + y.2.2.2.2.cells ≤ μ.2.2.2.2.cells ∧ ks + y.2.2.2.2.slots ≤ μ.2.2.2.2.slots) ∧ (st.map fun v => v.category).sum ≤ 8
theorem G_callS {idx n : Nat} {y : Mu} {as : List Value} {Q : Option Value → Wd → Prop} (hd : decode μ.2.1 pc = .ok (.invokestatic idx, 3)) (hl : ML μ.1.cls idx y) (hm : MS y n) (hn : as.length = n) (hr : RF μ y kc ks st) (hS : Sp Γ y as w Q) (k : ∀ v w', Q v w' → G Γ μ Ret (kc + y.2.2.2.2.cells) (ks + y.2.2.2.2.slots) (pc + 3) L (v.toList ++ st) w') : G Γ μ Ret kc ks pc L (as.reverse ++ st) w := by
  intro p e R s m args below meth c H locs Q0 ls C r0 P S o T hT X
  have hsz := size_of X hT P S
  have hts := C.2.2.2.2.1
  have hp : PreS s H (va_Pc (as.map (cv Γ)) (fun U => PU Γ w U ∧ U.heap.size = Γ.2.2.2.1 + w.1)) (as.map (cv Γ)) := ⟨blind as, fun U hU hW => ⟨rfl, ⟨by rw [hU]; exact P, PK.warm hW C.2.2.2.2.2.2.2.1⟩, by rw [hU]; exact hsz⟩⟩
  have hst : (as.reverse ++ st).map (cv Γ) = (as.map (cv Γ)).reverse ++ st.map (cv Γ) := by simp
  have hcat := lv_room (m := m) (pc := pc) (ls := ls) (rest := (as.reverse ++ st).map (cv Γ)) (st := st.map (cv Γ)) (by rw [cat_sum]; exact hr.2.2)
  have hrun : va_Run p Γ.1 e R s m args below meth c H locs kc ks y.2.2.2.2.cells y.2.2.2.2.slots (F0 m pc ls ((as.reverse ++ st).map (cv Γ))) (st.map (cv Γ)) (SpQ Γ y w Q (as.map (cv Γ)).toArray) (Ab Γ) := by
    obtain ⟨⟨m1, m2, m3⟩, m4⟩ := hm
    rcases hl with hl | ⟨host, hl⟩
    · exact va_runS (As := as.map (cv Γ)) ⟨C.1, C.2.1, C.2.2.1, C.2.2.2.1, hts⟩ hS ⟨callB_of n hts (tb_goodM m1) rfl rfl rfl (hts _ m2) (hts _ hl) m3 (by rw [C.2.2.2.2.2.1]; exact hr.1), hts _ m4⟩ hp rfl (by simpa using hn) o.2.1 hst hcat hd (by rw [C.2.2.2.2.2.1]; exact hr.2.1)
    · exact va_runSN (As := as.map (cv Γ)) (host := host) ⟨C.1, C.2.1, C.2.2.1, C.2.2.2.1, hts⟩ hS ⟨va_cnB n hts (tb_goodM m1) rfl rfl rfl (C.2.2.2.2.2.2.2.1.2.2 _ hl) (hts _ m2) m3 (by rw [C.2.2.2.2.2.1]; exact hr.1), hts _ m4, trivial⟩ hp rfl (by simpa using hn) o.2.1 hst hcat hd (by rw [C.2.2.2.2.2.1]; exact hr.2.1)
  refine call_on hrun S (fun v w' H1 locs1 hq hP hS1 => ?_) T hT X
  have h := k v w' hq p e R s m args below meth c H1 locs1 Q0 ls C r0 hP hS1 o
  have e1 : (v.toList ++ st).map (cv Γ) = (v.map (cv Γ)).toList ++ st.map (cv Γ) := by cases v <;> simp
  rw [e1] at h
  exact h
theorem G_callV {idx n r ci : Nat} {y : Mu} {as : List Value} {Q : Option Value → Wd → Prop} (hd : decode μ.2.1 pc = .ok (.invokevirtual idx, 3)) (hl : ML μ.1.cls idx y) (hm : MV y n) (hn : as.length = n) (hr : RF μ y kc ks st) (hs : sh w r = some (.inr ci)) (hci : ∃ T N, clsL[ci]? = some (y.1.cls, T, N)) (hS : Sp Γ y (vR r :: as) w Q) (k : ∀ v w', Q v w' → G Γ μ Ret (kc + y.2.2.2.2.cells) (ks + y.2.2.2.2.slots) (pc + 3) L (v.toList ++ st) w') : G Γ μ Ret kc ks pc L (as.reverse ++ vR r :: st) w := by
  intro p e R s m args below meth c H locs Q0 ls C r0 P S o T hT X
  have hsz := size_of X hT P S
  have hts := C.2.2.2.2.1
  obtain ⟨Tc, Nc, hci⟩ := hci
  have hrc : ∃ cell : Cell, H[Γ.2.2.2.1 + r]? = some cell ∧ cell.vm.isStatics = false ∧ s.vm.findClass y.1.cls = some cell.cls := va_recv C.2.2.2.2.2.2.2.1.1 P hci (wsW_at Γ hs)
  have hp : PreV s H y.1.cls (Γ.2.2.2.1 + r) (va_Pc ((vR r :: as).map (cv Γ)) (fun U => PU Γ w U ∧ U.heap.size = Γ.2.2.2.1 + w.1)) (as.map (cv Γ)) := ⟨blind (vR r :: as), hrc, fun U hU hW => ⟨by rw [List.map_cons, cv_R Γ hs], ⟨by rw [hU]; exact P, PK.warm hW C.2.2.2.2.2.2.2.1⟩, by rw [hU]; exact hsz⟩⟩
  have hst : (as.reverse ++ vR r :: st).map (cv Γ) = (as.map (cv Γ)).reverse ++ .ref (Γ.2.2.2.1 + r) :: st.map (cv Γ) := by simp [cv_R Γ hs]
  have hcat := lv_room (m := m) (pc := pc) (ls := ls) (rest := (as.reverse ++ vR r :: st).map (cv Γ)) (st := st.map (cv Γ)) (by rw [cat_sum]; exact hr.2.2)
  have hrun : va_Run p Γ.1 e R s m args below meth c H locs kc ks y.2.2.2.2.cells y.2.2.2.2.slots (F0 m pc ls ((as.reverse ++ vR r :: st).map (cv Γ))) (st.map (cv Γ)) (SpQ Γ y w Q (Value.ref (Γ.2.2.2.1 + r) :: as.map (cv Γ)).toArray) (Ab Γ) := by
    obtain ⟨⟨m1, m2, m3⟩, m4, m5⟩ := hm
    rcases hl with hl | ⟨host, hl⟩
    · exact va_runV (As := as.map (cv Γ)) ⟨C.1, C.2.1, C.2.2.1, C.2.2.2.1, hts⟩ hS ⟨callB_of n hts (tb_goodM m1) rfl rfl rfl (hts _ m2) (hts _ hl) m3 (by rw [C.2.2.2.2.2.1]; exact hr.1), hts _ m4, hts _ m5⟩ hp rfl (by simpa using hn) o.2.1 hst hcat hd (by rw [C.2.2.2.2.2.1]; exact hr.2.1)
    · exact va_runVN (As := as.map (cv Γ)) (host := host) ⟨C.1, C.2.1, C.2.2.1, C.2.2.2.1, hts⟩ hS ⟨va_cnB n hts (tb_goodM m1) rfl rfl rfl (C.2.2.2.2.2.2.2.1.2.2 _ hl) (hts _ m2) m3 (by rw [C.2.2.2.2.2.1]; exact hr.1), hts _ m4, hts _ m5⟩ hp rfl (by simpa using hn) o.2.1 hst hcat hd (by rw [C.2.2.2.2.2.1]; exact hr.2.1)
  refine call_on hrun S (fun v w' H1 locs1 hq hP hS1 => ?_) T hT X
  have h := k v w' hq p e R s m args below meth c H1 locs1 Q0 ls C r0 hP hS1 o
  have e1 : (v.toList ++ st).map (cv Γ) = (v.map (cv Γ)).toList ++ st.map (cv Γ) := by cases v <;> simp
  rw [e1] at h
  exact h
theorem G_callI {idx n r ci : Nat} {y : Mu} {as : List Value} {Q : Option Value → Wd → Prop} (hd : decode μ.2.1 pc = .ok (.invokespecial idx, 3)) (hl : ML μ.1.cls idx y) (hm : MI y n) (hn : as.length = n) (hr : RF μ y kc ks st) (hs : sh w r = some (.inr ci)) (hS : Sp Γ y (vR r :: as) w Q) (k : ∀ v w', Q v w' → G Γ μ Ret (kc + y.2.2.2.2.cells) (ks + y.2.2.2.2.slots) (pc + 3) L (v.toList ++ st) w') : G Γ μ Ret kc ks pc L (as.reverse ++ vR r :: st) w := by
  intro p e R s m args below meth c H locs Q0 ls C r0 P S o T hT X
  have hsz := size_of X hT P S
  have hts := C.2.2.2.2.1
  obtain ⟨yn, yb, yl, yr, yo⟩ := y
  obtain ⟨⟨m1, m2, m3⟩, m4, m5, m6⟩ := hm
  have m6 : yr = none := m6
  subst m6
  have hp : PreS s H (va_Pc ((vR r :: as).map (cv Γ)) (fun U => PU Γ w U ∧ U.heap.size = Γ.2.2.2.1 + w.1)) (.ref (Γ.2.2.2.1 + r) :: as.map (cv Γ)) := ⟨blind (vR r :: as), fun U hU hW => ⟨by rw [List.map_cons, cv_R Γ hs], ⟨by rw [hU]; exact P, PK.warm hW C.2.2.2.2.2.2.2.1⟩, by rw [hU]; exact hsz⟩⟩
  have hst : (as.reverse ++ vR r :: st).map (cv Γ) = (as.map (cv Γ)).reverse ++ .ref (Γ.2.2.2.1 + r) :: st.map (cv Γ) := by simp [cv_R Γ hs]
  have hcat := lv_room (m := m) (pc := pc) (ls := ls) (rest := (as.reverse ++ vR r :: st).map (cv Γ)) (st := st.map (cv Γ)) (by rw [cat_sum]; exact hr.2.2)
  have hrun : va_Run p Γ.1 e R s m args below meth c H locs kc ks yo.cells yo.slots (F0 m pc ls ((as.reverse ++ vR r :: st).map (cv Γ))) (st.map (cv Γ)) (SpQ Γ (yn, yb, yl, none, yo) w Q (Value.ref (Γ.2.2.2.1 + r) :: as.map (cv Γ)).toArray) (Ab Γ) := by
    rcases hl with hl | ⟨host, hl⟩
    · exact va_runI (As := as.map (cv Γ)) ⟨C.1, C.2.1, C.2.2.1, C.2.2.2.1, hts⟩ hS ⟨callB_of n hts (tb_goodM (μ := (yn, yb, yl, none, yo)) m1) rfl rfl rfl (hts _ m2) (hts _ hl) m3 (by rw [C.2.2.2.2.2.1]; exact hr.1), m5, hts _ m4⟩ hp rfl (by simpa using hn) o.2.1 hst hcat hd (by rw [C.2.2.2.2.2.1]; exact hr.2.1)
    · exact va_runIN (As := as.map (cv Γ)) (host := host) ⟨C.1, C.2.1, C.2.2.1, C.2.2.2.1, hts⟩ hS ⟨va_cnB n hts (tb_goodM (μ := (yn, yb, yl, none, yo)) m1) rfl rfl rfl (C.2.2.2.2.2.2.2.1.2.2 _ hl) (hts _ m2) m3 (by rw [C.2.2.2.2.2.1]; exact hr.1), m5, hts _ m4⟩ hp rfl (by simpa using hn) o.2.1 hst hcat hd (by rw [C.2.2.2.2.2.1]; exact hr.2.1)
  refine call_on (y := (yn, yb, yl, none, yo)) hrun S (fun v w' H1 locs1 hq hP hS1 => ?_) T hT X
  have h := k v w' hq p e R s m args below meth c H1 locs1 Q0 ls C r0 hP hS1 o
  have e1 : (v.toList ++ st).map (cv Γ) = (v.map (cv Γ)).toList ++ st.map (cv Γ) := by cases v <;> simp
  rw [e1] at h
  exact h
theorem G_ldcw {n : Int} {i : Nat} (hd : decode μ.2.1 pc = .ok (.ldc_w i, 3)) (hc : Cond.constant μ.1.cls i (iI n) ∈ TB) (k : G Γ μ Ret kc ks (pc + 3) L (vI n :: st) w) : G Γ μ Ret kc ks pc L st w :=
  fun p e R s m args below meth c H locs Q ls C r P S o => lv_ldcw C.1 C.2.1 C.2.2.2.1 (C.2.2.2.2.1 _ hc) hd (k p e R s m args below meth c H locs Q ls C r P S o)
/-- an int answer; none; a reference; an int answer and nothing changed -/
def SpI (Γ : Gm) (μ : Mu) (as : List Value) (w : Wd) (Q : Int → Wd → Prop) : Prop := Sp Γ μ as w (fun v u => ∃ z, v = some (vI z) ∧ Q z u)
def SpV (Γ : Gm) (μ : Mu) (as : List Value) (w : Wd) (Q : Wd → Prop) : Prop := Sp Γ μ as w (fun v u => v = none ∧ Q u)
def SpR (Γ : Gm) (μ : Mu) (as : List Value) (w : Wd) (Q : Nat → Wd → Prop) : Prop := Sp Γ μ as w (fun v u => ∃ r, v = some (vR r) ∧ Q r u)
def SpP (Γ : Gm) (μ : Mu) (as : List Value) (w : Wd) (z : Int) : Prop := SpI Γ μ as w (fun v u => v = z ∧ u = w)
def N0 (y : Mu) : Prop := y.2.2.2.2.cells = 0 ∧ y.2.2.2.2.slots = 0
theorem G_n0 {y : Mu} {v : List Value} {u : Wd} (h0 : N0 y) (h : G Γ μ Ret kc ks pc L (v ++ st) u) : G Γ μ Ret (kc + y.2.2.2.2.cells) (ks + y.2.2.2.2.slots) pc L (v ++ st) u := by
  rw [h0.1, h0.2]
  exact h
theorem G_SP {idx n : Nat} {y : Mu} {as : List Value} {z : Int} (h0 : N0 y) (hd : decode μ.2.1 pc = .ok (.invokestatic idx, 3)) (hl : ML μ.1.cls idx y) (hm : MS y n) (hn : as.length = n) (hr : RF μ y kc ks st) (hS : SpP Γ y as w z) (k : G Γ μ Ret kc ks (pc + 3) L (vI z :: st) w) : G Γ μ Ret kc ks pc L (as.reverse ++ st) w :=
  G_callS hd hl hm hn hr hS (fun v u h => by obtain ⟨z', rfl, rfl, rfl⟩ := h; exact G_n0 h0 k)
theorem G_SI {idx n : Nat} {y : Mu} {as : List Value} {Q : Int → Wd → Prop} (h0 : N0 y) (hd : decode μ.2.1 pc = .ok (.invokestatic idx, 3)) (hl : ML μ.1.cls idx y) (hm : MS y n) (hn : as.length = n) (hr : RF μ y kc ks st) (hS : SpI Γ y as w Q) (k : ∀ z u, Q z u → G Γ μ Ret kc ks (pc + 3) L (vI z :: st) u) : G Γ μ Ret kc ks pc L (as.reverse ++ st) w :=
  G_callS hd hl hm hn hr hS (fun v u h => by obtain ⟨z', rfl, hq⟩ := h; exact G_n0 h0 (k z' u hq))
theorem G_SV {idx n : Nat} {y : Mu} {as : List Value} {Q : Wd → Prop} (h0 : N0 y) (hd : decode μ.2.1 pc = .ok (.invokestatic idx, 3)) (hl : ML μ.1.cls idx y) (hm : MS y n) (hn : as.length = n) (hr : RF μ y kc ks st) (hS : SpV Γ y as w Q) (k : ∀ u, Q u → G Γ μ Ret kc ks (pc + 3) L st u) : G Γ μ Ret kc ks pc L (as.reverse ++ st) w :=
  G_callS hd hl hm hn hr hS (fun v u h => by obtain ⟨rfl, hq⟩ := h; exact G_n0 (v := []) h0 (k u hq))
theorem G_VP {idx n r ci : Nat} {y : Mu} {as : List Value} {z : Int} (h0 : N0 y) (hd : decode μ.2.1 pc = .ok (.invokevirtual idx, 3)) (hl : ML μ.1.cls idx y) (hm : MV y n) (hn : as.length = n) (hr : RF μ y kc ks st) (hs : sh w r = some (.inr ci)) (hci : ∃ T N, clsL[ci]? = some (y.1.cls, T, N)) (hS : SpP Γ y (vR r :: as) w z) (k : G Γ μ Ret kc ks (pc + 3) L (vI z :: st) w) : G Γ μ Ret kc ks pc L (as.reverse ++ vR r :: st) w :=
  G_callV hd hl hm hn hr hs hci hS (fun v u h => by obtain ⟨z', rfl, rfl, rfl⟩ := h; exact G_n0 h0 k)
theorem G_VI {idx n r ci : Nat} {y : Mu} {as : List Value} {Q : Int → Wd → Prop} (h0 : N0 y) (hd : decode μ.2.1 pc = .ok (.invokevirtual idx, 3)) (hl : ML μ.1.cls idx y) (hm : MV y n) (hn : as.length = n) (hr : RF μ y kc ks st) (hs : sh w r = some (.inr ci)) (hci : ∃ T N, clsL[ci]? = some (y.1.cls, T, N)) (hS : SpI Γ y (vR r :: as) w Q) (k : ∀ z u, Q z u → G Γ μ Ret kc ks (pc + 3) L (vI z :: st) u) : G Γ μ Ret kc ks pc L (as.reverse ++ vR r :: st) w :=
  G_callV hd hl hm hn hr hs hci hS (fun v u h => by obtain ⟨z', rfl, hq⟩ := h; exact G_n0 h0 (k z' u hq))
theorem G_VR {idx n r ci : Nat} {y : Mu} {as : List Value} {Q : Nat → Wd → Prop} (h0 : N0 y) (hd : decode μ.2.1 pc = .ok (.invokevirtual idx, 3)) (hl : ML μ.1.cls idx y) (hm : MV y n) (hn : as.length = n) (hr : RF μ y kc ks st) (hs : sh w r = some (.inr ci)) (hci : ∃ T N, clsL[ci]? = some (y.1.cls, T, N)) (hS : SpR Γ y (vR r :: as) w Q) (k : ∀ z u, Q z u → G Γ μ Ret kc ks (pc + 3) L (vR z :: st) u) : G Γ μ Ret kc ks pc L (as.reverse ++ vR r :: st) w :=
  G_callV hd hl hm hn hr hs hci hS (fun v u h => by obtain ⟨z', rfl, hq⟩ := h; exact G_n0 h0 (k z' u hq))
theorem G_VV {idx n r ci : Nat} {y : Mu} {as : List Value} {Q : Wd → Prop} (h0 : N0 y) (hd : decode μ.2.1 pc = .ok (.invokevirtual idx, 3)) (hl : ML μ.1.cls idx y) (hm : MV y n) (hn : as.length = n) (hr : RF μ y kc ks st) (hs : sh w r = some (.inr ci)) (hci : ∃ T N, clsL[ci]? = some (y.1.cls, T, N)) (hS : SpV Γ y (vR r :: as) w Q) (k : ∀ u, Q u → G Γ μ Ret kc ks (pc + 3) L st u) : G Γ μ Ret kc ks pc L (as.reverse ++ vR r :: st) w :=
  G_callV hd hl hm hn hr hs hci hS (fun v u h => by obtain ⟨rfl, hq⟩ := h; exact G_n0 (v := []) h0 (k u hq))
theorem G_II {idx n r ci : Nat} {y : Mu} {as : List Value} {Q : Wd → Prop} (hd : decode μ.2.1 pc = .ok (.invokespecial idx, 3)) (hl : ML μ.1.cls idx y) (hm : MI y n) (hn : as.length = n) (hr : RF μ y kc ks st) (hs : sh w r = some (.inr ci)) (hS : SpV Γ y (vR r :: as) w Q) (k : ∀ u, Q u → G Γ μ Ret (kc + y.2.2.2.2.cells) (ks + y.2.2.2.2.slots) (pc + 3) L st u) : G Γ μ Ret kc ks pc L (as.reverse ++ vR r :: st) w :=
  G_callI hd hl hm hn hr hs hS (fun v u h => by obtain ⟨rfl, hq⟩ := h; exact k u hq)
theorem G_reti {z : Int} (hd : decode μ.2.1 pc = .ok (.ireturn, 1)) (hf : rfit μ.2.2.2.1 (some (vI z))) (hk : kc = μ.2.2.2.2.cells ∧ ks ≤ μ.2.2.2.2.slots) (h : Ret (some (vI z)) w) : G Γ μ Ret kc ks pc L [vI z] w := G_ret (some (vI z)) hd hf hk h
theorem G_retr {r : Nat} (hd : decode μ.2.1 pc = .ok (.areturn, 1)) (hf : rfit μ.2.2.2.1 (some (vR r))) (hk : kc = μ.2.2.2.2.cells ∧ ks ≤ μ.2.2.2.2.slots) (h : Ret (some (vR r)) w) : G Γ μ Ret kc ks pc L [vR r] w := G_ret (some (vR r)) hd hf hk h
theorem G_retv (hd : decode μ.2.1 pc = .ok (.return_, 1)) (hf : rfit μ.2.2.2.1 none) (hk : kc = μ.2.2.2.2.cells ∧ ks ≤ μ.2.2.2.2.slots) (h : Ret none w) : G Γ μ Ret kc ks pc L [] w := G_ret none hd hf hk h
end
end
section
def m_X0_init : Mu := (yX0_init, cX0_init, 1, none, { frames := 2, cells := 2, slots := 16, locals := 44 })
def m_X0_clear : Mu := (yX0_clear, cX0_clear, 3, none, { frames := 1, cells := 0, slots := 0, locals := 22 })
def m_X0_copyFrom : Mu := (yX0_copyFrom, cX0_copyFrom, 2, none, { frames := 1, cells := 0, slots := 0, locals := 22 })
def m_X0_isCovered : Mu := (yX0_isCovered, cX0_isCovered, 2, (some .boolean), { frames := 0, cells := 0, slots := 0, locals := 0 })
def m_X0_canCut : Mu := (yX0_canCut, cX0_canCut, 3, (some .boolean), { frames := 2, cells := 0, slots := 0, locals := 45 })
def m_X0_cutFor : Mu := (yX0_cutFor, cX0_cutFor, 4, (some .int), { frames := 2, cells := 0, slots := 0, locals := 45 })
def m_X0_lengthOver : Mu := (yX0_lengthOver, cX0_lengthOver, 4, (some .int), { frames := 1, cells := 0, slots := 0, locals := 21 })
def m_X0_isSeamAt : Mu := (yX0_isSeamAt, cX0_isSeamAt, 4, (some .boolean), { frames := 2, cells := 0, slots := 0, locals := 44 })
def m_X0_hasRestFor : Mu := (yX0_hasRestFor, cX0_hasRestFor, 7, (some .boolean), { frames := 2, cells := 0, slots := 0, locals := 45 })
def m_X0_areaOfRests : Mu := (yX0_areaOfRests, cX0_areaOfRests, 6, (some .int), { frames := 2, cells := 0, slots := 0, locals := 45 })
def m_X0_tightness : Mu := (yX0_tightness, cX0_tightness, 2, (some .int), { frames := 1, cells := 0, slots := 0, locals := 21 })
def m_X0_isHooked : Mu := (yX0_isHooked, cX0_isHooked, 2, (some .boolean), { frames := 0, cells := 0, slots := 0, locals := 0 })
def m_X0_isTorn : Mu := (yX0_isTorn, cX0_isTorn, 2, (some .boolean), { frames := 0, cells := 0, slots := 0, locals := 0 })
def m_X0_isFree : Mu := (yX0_isFree, cX0_isFree, 2, (some .boolean), { frames := 1, cells := 0, slots := 0, locals := 21 })
def m_X0_isWaving : Mu := (yX0_isWaving, cX0_isWaving, 2, (some .boolean), { frames := 2, cells := 0, slots := 0, locals := 42 })
def m_X0_tightnessInAll : Mu := (yX0_tightnessInAll, cX0_tightnessInAll, 3, (some .int), { frames := 2, cells := 0, slots := 0, locals := 42 })
def m_X0_tightnessBy : Mu := (yX0_tightnessBy, cX0_tightnessBy, 6, (some .int), { frames := 2, cells := 0, slots := 0, locals := 42 })
def m_X0_leastKick : Mu := (yX0_leastKick, cX0_leastKick, 6, (some .int), { frames := 3, cells := 0, slots := 0, locals := 67 })
def m_X0_hookOn : Mu := (yX0_hookOn, cX0_hookOn, 5, (some .int), { frames := 3, cells := 0, slots := 0, locals := 67 })
def m_X0_unhook : Mu := (yX0_unhook, cX0_unhook, 3, (some .int), { frames := 2, cells := 0, slots := 0, locals := 42 })
def m_X0_passMonth : Mu := (yX0_passMonth, cX0_passMonth, 4, none, { frames := 3, cells := 0, slots := 0, locals := 63 })
def m_X0_monthsToWave : Mu := (yX0_monthsToWave, cX0_monthsToWave, 5, (some .int), { frames := 3, cells := 0, slots := 0, locals := 63 })
def m_X0_takeStep : Mu := (yX0_takeStep, cX0_takeStep, 4, none, { frames := 4, cells := 0, slots := 0, locals := 91 })
def m_X1_init : Mu := (yX1_init, cX1_init, 1, none, { frames := 1, cells := 3, slots := 39, locals := 12 })
def m_X1_make : Mu := (yX1_make, cX1_make, 4, none, { frames := 3, cells := 0, slots := 0, locals := 72 })
def m_X1_choose : Mu := (yX1_choose, cX1_choose, 8, none, { frames := 2, cells := 0, slots := 0, locals := 45 })
def m_X1_isLess : Mu := (yX1_isLess, cX1_isLess, 5, (some .boolean), { frames := 1, cells := 0, slots := 0, locals := 21 })
def m_X1_breadthOf : Mu := (yX1_breadthOf, cX1_breadthOf, 5, (some .int), { frames := 1, cells := 0, slots := 0, locals := 21 })
def m_X2_init : Mu := (yX2_init, cX2_init, 1, none, { frames := 1, cells := 0, slots := 0, locals := 12 })
def m_X2_make : Mu := (yX2_make, cX2_make, 6, none, { frames := 5, cells := 0, slots := 0, locals := 121 })
def m_X2_wallIn : Mu := (yX2_wallIn, cX2_wallIn, 3, (some .int), { frames := 0, cells := 0, slots := 0, locals := 0 })
def m_X2_isOrder : Mu := (yX2_isOrder, cX2_isOrder, 6, (some .boolean), { frames := 2, cells := 0, slots := 0, locals := 42 })
def m_X2_kicksOf : Mu := (yX2_kicksOf, cX2_kicksOf, 10, (some .int), { frames := 4, cells := 0, slots := 0, locals := 92 })
def m_X2_wallAt : Mu := (yX2_wallAt, cX2_wallAt, 2, (some .int), { frames := 1, cells := 0, slots := 0, locals := 22 })
def m_X3_init : Mu := (yX3_init, cX3_init, 1, none, { frames := 1, cells := 5, slots := 51, locals := 20 })
def m_X3_clear : Mu := (yX3_clear, cX3_clear, 1, none, { frames := 0, cells := 0, slots := 0, locals := 0 })
def m_X3_readText : Mu := (yX3_readText, cX3_readText, 6, (some .int), { frames := 4, cells := 0, slots := 0, locals := 91 })
def m_X3_readNumbers : Mu := (yX3_readNumbers, cX3_readNumbers, 8, (some .int), { frames := 3, cells := 0, slots := 0, locals := 64 })
def m_X3_numbersBehind : Mu := (yX3_numbersBehind, cX3_numbersBehind, 1, (some .int), { frames := 0, cells := 0, slots := 0, locals := 0 })
def m_X3_figuresAt : Mu := (yX3_figuresAt, cX3_figuresAt, 3, (some .int), { frames := 2, cells := 0, slots := 0, locals := 42 })
def m_X3_numberAt : Mu := (yX3_numberAt, cX3_numberAt, 6, (some .int), { frames := 1, cells := 0, slots := 0, locals := 22 })
def m_X3_isFigure : Mu := (yX3_isFigure, cX3_isFigure, 1, (some .boolean), { frames := 1, cells := 0, slots := 0, locals := 22 })
def m_X3_letterAt : Mu := (yX3_letterAt, cX3_letterAt, 3, (some .int), { frames := 0, cells := 0, slots := 0, locals := 0 })
def m_X3_takeItem : Mu := (yX3_takeItem, cX3_takeItem, 4, (some .boolean), { frames := 2, cells := 0, slots := 0, locals := 45 })
def m_X3_takeStrip : Mu := (yX3_takeStrip, cX3_takeStrip, 4, (some .boolean), { frames := 1, cells := 0, slots := 0, locals := 22 })
def m_X3_takeDamp : Mu := (yX3_takeDamp, cX3_takeDamp, 2, (some .boolean), { frames := 1, cells := 0, slots := 0, locals := 22 })
def m_X3_lengthOfStrip : Mu := (yX3_lengthOfStrip, cX3_lengthOfStrip, 2, (some .int), { frames := 1, cells := 0, slots := 0, locals := 21 })
def m_X3_lightAt : Mu := (yX3_lightAt, cX3_lightAt, 2, (some .int), { frames := 1, cells := 0, slots := 0, locals := 21 })
def m_X3_treadAt : Mu := (yX3_treadAt, cX3_treadAt, 2, (some .int), { frames := 1, cells := 0, slots := 0, locals := 21 })
def m_X3_dampOf : Mu := (yX3_dampOf, cX3_dampOf, 2, (some .int), { frames := 1, cells := 0, slots := 0, locals := 21 })
def m_X3_slackeningIn : Mu := (yX3_slackeningIn, cX3_slackeningIn, 2, (some .int), { frames := 2, cells := 0, slots := 0, locals := 42 })
def m_X3_lengthFor : Mu := (yX3_lengthFor, cX3_lengthFor, 5, (some .int), { frames := 1, cells := 0, slots := 0, locals := 21 })
def m_X4_init : Mu := (yX4_init, cX4_init, 3, none, { frames := 3, cells := 25, slots := 200, locals := 64 })
def m_X4_clear : Mu := (yX4_clear, cX4_clear, 1, none, { frames := 0, cells := 0, slots := 0, locals := 0 })
def m_X4_isFull : Mu := (yX4_isFull, cX4_isFull, 1, (some .boolean), { frames := 0, cells := 0, slots := 0, locals := 0 })
def m_X4_rowAt : Mu := (yX4_rowAt, cX4_rowAt, 2, (some (.object "StretchedCarpet$Carpet")), { frames := 0, cells := 0, slots := 0, locals := 0 })
def m_X4_push : Mu := (yX4_push, cX4_push, 3, none, { frames := 2, cells := 0, slots := 0, locals := 43 })
def m_X4_pop : Mu := (yX4_pop, cX4_pop, 4, (some .boolean), { frames := 2, cells := 0, slots := 0, locals := 43 })
def m_X5_init : Mu := (yX5_init, cX5_init, 1, none, { frames := 1, cells := 2, slots := 12, locals := 20 })
def m_X5_clear : Mu := (yX5_clear, cX5_clear, 1, none, { frames := 0, cells := 0, slots := 0, locals := 0 })
def m_X5_add : Mu := (yX5_add, cX5_add, 3, (some .boolean), { frames := 1, cells := 0, slots := 0, locals := 22 })
def m_X5_kindsFor : Mu := (yX5_kindsFor, cX5_kindsFor, 4, (some .int), { frames := 2, cells := 0, slots := 0, locals := 46 })
def m_X5_givesFor : Mu := (yX5_givesFor, cX5_givesFor, 4, (some .int), { frames := 2, cells := 0, slots := 0, locals := 46 })
def m_X5_explainedBy : Mu := (yX5_explainedBy, cX5_explainedBy, 5, (some .boolean), { frames := 1, cells := 0, slots := 0, locals := 22 })
def m_X6_init : Mu := (yX6_init, cX6_init, 1, none, { frames := 6, cells := 62, slots := 781, locals := 133 })
def m_X6_write : Mu := (yX6_write, cX6_write, 2, (some .int), { frames := 1, cells := 0, slots := 0, locals := 22 })
def m_X6_wipe : Mu := (yX6_wipe, cX6_wipe, 2, (some .int), { frames := 0, cells := 0, slots := 0, locals := 0 })
def m_X6_fault : Mu := (yX6_fault, cX6_fault, 1, (some .int), { frames := 5, cells := 0, slots := 0, locals := 116 })
def m_X6_lay : Mu := (yX6_lay, cX6_lay, 2, (some .int), { frames := 5, cells := 0, slots := 0, locals := 116 })
def m_X6_strip : Mu := (yX6_strip, cX6_strip, 3, (some .int), { frames := 3, cells := 0, slots := 0, locals := 67 })
def m_X6_wall : Mu := (yX6_wall, cX6_wall, 3, (some .int), { frames := 3, cells := 0, slots := 0, locals := 63 })
def m_X6_damp : Mu := (yX6_damp, cX6_damp, 2, (some .int), { frames := 2, cells := 0, slots := 0, locals := 42 })
def m_X6_cut : Mu := (yX6_cut, cX6_cut, 2, (some .int), { frames := 3, cells := 0, slots := 0, locals := 68 })
def m_X6_hook : Mu := (yX6_hook, cX6_hook, 3, (some .int), { frames := 4, cells := 0, slots := 0, locals := 91 })
def m_X6_letGo : Mu := (yX6_letGo, cX6_letGo, 2, (some .int), { frames := 3, cells := 0, slots := 0, locals := 65 })
def m_X6_pass : Mu := (yX6_pass, cX6_pass, 3, (some .int), { frames := 4, cells := 0, slots := 0, locals := 86 })
def m_X6_undo : Mu := (yX6_undo, cX6_undo, 1, (some .int), { frames := 3, cells := 0, slots := 0, locals := 66 })
def m_X6_plan : Mu := (yX6_plan, cX6_plan, 2, (some .int), { frames := 4, cells := 0, slots := 0, locals := 95 })
def m_X6_order : Mu := (yX6_order, cX6_order, 2, (some .int), { frames := 6, cells := 0, slots := 0, locals := 146 })
def m_X6_kickFor : Mu := (yX6_kickFor, cX6_kickFor, 3, (some .int), { frames := 4, cells := 0, slots := 0, locals := 92 })
def m_X6_waves : Mu := (yX6_waves, cX6_waves, 3, (some .int), { frames := 4, cells := 0, slots := 0, locals := 87 })
def m_X6_longest : Mu := (yX6_longest, cX6_longest, 4, (some .int), { frames := 4, cells := 0, slots := 0, locals := 87 })
def m_X6_seen : Mu := (yX6_seen, cX6_seen, 3, (some .int), { frames := 2, cells := 0, slots := 0, locals := 44 })
def m_X6_forget : Mu := (yX6_forget, cX6_forget, 2, (some .int), { frames := 1, cells := 0, slots := 0, locals := 20 })
def m_X6_may : Mu := (yX6_may, cX6_may, 2, (some .int), { frames := 3, cells := 0, slots := 0, locals := 69 })
def m_X6_hall : Mu := (yX6_hall, cX6_hall, 3, (some .int), { frames := 3, cells := 0, slots := 0, locals := 71 })
def m_X6_left : Mu := (yX6_left, cX6_left, 2, (some .int), { frames := 3, cells := 0, slots := 0, locals := 70 })
def m_X6_likely : Mu := (yX6_likely, cX6_likely, 8, (some .int), { frames := 2, cells := 0, slots := 0, locals := 48 })
def m_X6_year : Mu := (yX6_year, cX6_year, 5, (some .int), { frames := 5, cells := 0, slots := 0, locals := 114 })
def m_X6_keep : Mu := (yX6_keep, cX6_keep, 1, (some .int), { frames := 3, cells := 0, slots := 0, locals := 65 })
def m_X6_back : Mu := (yX6_back, cX6_back, 1, (some .int), { frames := 3, cells := 0, slots := 0, locals := 66 })
def m_X6_count : Mu := (yX6_count, cX6_count, 2, (some .int), { frames := 1, cells := 0, slots := 0, locals := 21 })
def m_X6_within : Mu := (yX6_within, cX6_within, 3, (some .boolean), { frames := 0, cells := 0, slots := 0, locals := 0 })
def m_X6_isWall : Mu := (yX6_isWall, cX6_isWall, 1, (some .boolean), { frames := 1, cells := 0, slots := 0, locals := 22 })
def m_X6_at : Mu := (yX6_at, cX6_at, 2, (some .int), { frames := 0, cells := 0, slots := 0, locals := 0 })
def m_X6_put : Mu := (yX6_put, cX6_put, 3, none, { frames := 0, cells := 0, slots := 0, locals := 0 })
def m_X6_copy : Mu := (yX6_copy, cX6_copy, 3, none, { frames := 0, cells := 0, slots := 0, locals := 0 })
def m_X6_power : Mu := (yX6_power, cX6_power, 4, (some .int), { frames := 0, cells := 0, slots := 0, locals := 0 })
def m_X6_commonDivisor : Mu := (yX6_commonDivisor, cX6_commonDivisor, 6, (some .int), { frames := 0, cells := 0, slots := 0, locals := 0 })
def m_X6_waysToWave : Mu := (yX6_waysToWave, cX6_waysToWave, 6, (some .int), { frames := 1, cells := 0, slots := 0, locals := 23 })
def m_X6_draw : Mu := (yX6_draw, cX6_draw, 4, (some .int), { frames := 0, cells := 0, slots := 0, locals := 0 })
def m_X6_slackOf : Mu := (yX6_slackOf, cX6_slackOf, 3, (some .int), { frames := 0, cells := 0, slots := 0, locals := 0 })
def m_X7_init : Mu := (yX7_init, cX7_init, 1, none, { frames := 1, cells := 14, slots := 728, locals := 24 })
def m_X7_addStrip : Mu := (yX7_addStrip, cX7_addStrip, 5, none, { frames := 0, cells := 0, slots := 0, locals := 0 })
def m_X7_in : Mu := (yX7_in, cX7_in, 3, (some .boolean), { frames := 0, cells := 0, slots := 0, locals := 0 })
def m_X7_has : Mu := (yX7_has, cX7_has, 2, (some .boolean), { frames := 0, cells := 0, slots := 0, locals := 0 })
def m_X7_bits : Mu := (yX7_bits, cX7_bits, 3, (some .int), { frames := 0, cells := 0, slots := 0, locals := 0 })
def m_X7_bring : Mu := (yX7_bring, cX7_bring, 6, none, { frames := 0, cells := 0, slots := 0, locals := 0 })
def m_X7_write : Mu := (yX7_write, cX7_write, 2, (some .int), { frames := 1, cells := 0, slots := 0, locals := 22 })
def m_X7_wipe : Mu := (yX7_wipe, cX7_wipe, 2, (some .int), { frames := 0, cells := 0, slots := 0, locals := 0 })
def m_X7_letterAt : Mu := (yX7_letterAt, cX7_letterAt, 2, (some .int), { frames := 0, cells := 0, slots := 0, locals := 0 })
def m_X7_isNumber : Mu := (yX7_isNumber, cX7_isNumber, 5, (some .boolean), { frames := 1, cells := 0, slots := 0, locals := 22 })
def m_X7_isStripItem : Mu := (yX7_isStripItem, cX7_isStripItem, 3, (some .boolean), { frames := 2, cells := 0, slots := 0, locals := 46 })
def m_X7_isDampItem : Mu := (yX7_isDampItem, cX7_isDampItem, 1, (some .boolean), { frames := 2, cells := 0, slots := 0, locals := 46 })
def m_X7_isPair : Mu := (yX7_isPair, cX7_isPair, 7, (some .boolean), { frames := 2, cells := 0, slots := 0, locals := 46 })
def m_X7_isOne : Mu := (yX7_isOne, cX7_isOne, 4, (some .boolean), { frames := 2, cells := 0, slots := 0, locals := 46 })
def m_X7_isItem : Mu := (yX7_isItem, cX7_isItem, 2, (some .boolean), { frames := 3, cells := 0, slots := 0, locals := 72 })
def m_X7_fault : Mu := (yX7_fault, cX7_fault, 2, (some .int), { frames := 4, cells := 0, slots := 0, locals := 93 })
def m_X7_lay : Mu := (yX7_lay, cX7_lay, 2, (some .int), { frames := 5, cells := 0, slots := 0, locals := 114 })
def m_X7_coveredIn : Mu := (yX7_coveredIn, cX7_coveredIn, 3, (some .int), { frames := 0, cells := 0, slots := 0, locals := 0 })
def m_X7_rollIn : Mu := (yX7_rollIn, cX7_rollIn, 4, (some .int), { frames := 0, cells := 0, slots := 0, locals := 0 })
def m_X7_lengthOf : Mu := (yX7_lengthOf, cX7_lengthOf, 4, (some .int), { frames := 0, cells := 0, slots := 0, locals := 0 })
def m_X7_strip : Mu := (yX7_strip, cX7_strip, 5, (some .int), { frames := 1, cells := 0, slots := 0, locals := 23 })
def m_X7_isHooked : Mu := (yX7_isHooked, cX7_isHooked, 2, (some .boolean), { frames := 1, cells := 0, slots := 0, locals := 21 })
def m_X7_wall : Mu := (yX7_wall, cX7_wall, 3, (some .int), { frames := 2, cells := 0, slots := 0, locals := 42 })
def m_X7_dampBy : Mu := (yX7_dampBy, cX7_dampBy, 2, (some .int), { frames := 0, cells := 0, slots := 0, locals := 0 })
def m_X7_damp : Mu := (yX7_damp, cX7_damp, 2, (some .int), { frames := 1, cells := 0, slots := 0, locals := 22 })
def m_X7_note : Mu := (yX7_note, cX7_note, 1, none, { frames := 1, cells := 0, slots := 0, locals := 25 })
def m_X7_longFor : Mu := (yX7_longFor, cX7_longFor, 5, (some .int), { frames := 0, cells := 0, slots := 0, locals := 0 })
def m_X7_cut : Mu := (yX7_cut, cX7_cut, 4, (some .int), { frames := 2, cells := 0, slots := 0, locals := 45 })
def m_X7_givesBy : Mu := (yX7_givesBy, cX7_givesBy, 3, (some .int), { frames := 0, cells := 0, slots := 0, locals := 0 })
def m_X7_tightBy : Mu := (yX7_tightBy, cX7_tightBy, 7, (some .int), { frames := 2, cells := 0, slots := 0, locals := 42 })
def m_X7_isFree : Mu := (yX7_isFree, cX7_isFree, 2, (some .boolean), { frames := 1, cells := 0, slots := 0, locals := 21 })
def m_X7_kick : Mu := (yX7_kick, cX7_kick, 5, none, { frames := 3, cells := 0, slots := 0, locals := 68 })
def m_X7_isCovered : Mu := (yX7_isCovered, cX7_isCovered, 1, (some .boolean), { frames := 1, cells := 0, slots := 0, locals := 22 })
def m_X7_hook : Mu := (yX7_hook, cX7_hook, 3, (some .int), { frames := 4, cells := 0, slots := 0, locals := 92 })
def m_X7_loosen : Mu := (yX7_loosen, cX7_loosen, 2, none, { frames := 0, cells := 0, slots := 0, locals := 0 })
def m_X7_letGo : Mu := (yX7_letGo, cX7_letGo, 3, (some .int), { frames := 2, cells := 0, slots := 0, locals := 45 })
def m_X7_passMonth : Mu := (yX7_passMonth, cX7_passMonth, 4, none, { frames := 1, cells := 0, slots := 0, locals := 21 })
def m_X7_pass : Mu := (yX7_pass, cX7_pass, 3, (some .int), { frames := 2, cells := 0, slots := 0, locals := 45 })
def m_X7_undo : Mu := (yX7_undo, cX7_undo, 1, (some .int), { frames := 1, cells := 0, slots := 0, locals := 25 })
def m_X7_seamAt : Mu := (yX7_seamAt, cX7_seamAt, 2, (some .int), { frames := 0, cells := 0, slots := 0, locals := 0 })
def m_X7_covers : Mu := (yX7_covers, cX7_covers, 7, (some .boolean), { frames := 1, cells := 0, slots := 0, locals := 25 })
def m_X7_isBefore : Mu := (yX7_isBefore, cX7_isBefore, 3, (some .boolean), { frames := 0, cells := 0, slots := 0, locals := 0 })
def m_X7_layPlan : Mu := (yX7_layPlan, cX7_layPlan, 8, none, { frames := 2, cells := 0, slots := 0, locals := 51 })
def m_X7_plan : Mu := (yX7_plan, cX7_plan, 2, (some .int), { frames := 3, cells := 0, slots := 0, locals := 78 })
def m_X7_begin : Mu := (yX7_begin, cX7_begin, 1, none, { frames := 1, cells := 0, slots := 0, locals := 25 })
def m_X7_leastKick : Mu := (yX7_leastKick, cX7_leastKick, 6, (some .int), { frames := 3, cells := 0, slots := 0, locals := 68 })
def m_X7_layOrder : Mu := (yX7_layOrder, cX7_layOrder, 8, none, { frames := 5, cells := 0, slots := 0, locals := 117 })
def m_X7_kicks : Mu := (yX7_kicks, cX7_kicks, 5, (some .int), { frames := 4, cells := 0, slots := 0, locals := 93 })
def m_X7_order : Mu := (yX7_order, cX7_order, 2, (some .int), { frames := 6, cells := 0, slots := 0, locals := 144 })
def m_X7_kickFor : Mu := (yX7_kickFor, cX7_kickFor, 3, (some .int), { frames := 4, cells := 0, slots := 0, locals := 93 })
def m_X7_wavesAt : Mu := (yX7_wavesAt, cX7_wavesAt, 3, (some .int), { frames := 2, cells := 0, slots := 0, locals := 45 })
def m_X7_waves : Mu := (yX7_waves, cX7_waves, 4, (some .int), { frames := 3, cells := 0, slots := 0, locals := 67 })
def m_X7_longest : Mu := (yX7_longest, cX7_longest, 5, (some .int), { frames := 3, cells := 0, slots := 0, locals := 67 })
def m_X7_seen : Mu := (yX7_seen, cX7_seen, 3, (some .int), { frames := 1, cells := 0, slots := 0, locals := 22 })
def m_X7_forget : Mu := (yX7_forget, cX7_forget, 2, (some .int), { frames := 0, cells := 0, slots := 0, locals := 0 })
def m_X7_isSo : Mu := (yX7_isSo, cX7_isSo, 6, (some .boolean), { frames := 1, cells := 0, slots := 0, locals := 22 })
def m_X7_may : Mu := (yX7_may, cX7_may, 5, (some .int), { frames := 2, cells := 0, slots := 0, locals := 47 })
def m_X7_hall : Mu := (yX7_hall, cX7_hall, 4, (some .int), { frames := 1, cells := 0, slots := 0, locals := 23 })
def m_X7_left : Mu := (yX7_left, cX7_left, 4, (some .int), { frames := 1, cells := 0, slots := 0, locals := 23 })
def m_X7_likely : Mu := (yX7_likely, cX7_likely, 11, (some .int), { frames := 2, cells := 0, slots := 0, locals := 42 })
def m_X7_year : Mu := (yX7_year, cX7_year, 9, (some .int), { frames := 4, cells := 0, slots := 0, locals := 92 })
def m_X7_keep : Mu := (yX7_keep, cX7_keep, 1, (some .int), { frames := 1, cells := 0, slots := 0, locals := 25 })
def m_X7_back : Mu := (yX7_back, cX7_back, 1, (some .int), { frames := 1, cells := 0, slots := 0, locals := 25 })
def m_X7_count : Mu := (yX7_count, cX7_count, 2, (some .int), { frames := 1, cells := 0, slots := 0, locals := 23 })
def m_J6_bitCount_0f7a4 : Mu := (yJ6_bitCount_0f7a4, cJ6_bitCount_0f7a4, 1, (some .int), { frames := 0, cells := 0, slots := 0, locals := 0 })
def m_J9_max_7cf53 : Mu := (yJ9_max_7cf53, cJ9_max_7cf53, 2, (some .int), { frames := 0, cells := 0, slots := 0, locals := 0 })
def m_J9_min_7cf53 : Mu := (yJ9_min_7cf53, cJ9_min_7cf53, 2, (some .int), { frames := 0, cells := 0, slots := 0, locals := 0 })
def m_L_law : Mu := (yL_law, cL_law, 4, some .boolean, room_1)
def m_X4_initB : Mu := (yX4_init, cX4_init, 3, none, { frames := 3, cells := 7, slots := 50, locals := 64 })
theorem cw_X0 : CW RX0 TX0 8 tyX0 := ⟨fun w hw => List.mem_filter.mpr ⟨(by decide +kernel : ∀ w ∈ u_ws RX0 TX0 8, w ∈ lw_tbl) w hw, (by decide +kernel : ∀ w ∈ u_ws RX0 TX0 8, goodWord w = true) w hw⟩, tyX0_ok, nmX0⟩
theorem cn_X0 : CN RX0 8 0 TX0 tyX0 := ⟨rfl, cw_X0, rfl, tb_127, tb_42, by decide +kernel⟩
theorem cw_X1 : CW RX1 TX1 8 tyX1 := ⟨fun w hw => List.mem_filter.mpr ⟨(by decide +kernel : ∀ w ∈ u_ws RX1 TX1 8, w ∈ lw_tbl) w hw, (by decide +kernel : ∀ w ∈ u_ws RX1 TX1 8, goodWord w = true) w hw⟩, tyX1_ok, nmX1⟩
theorem cn_X1 : CN RX1 8 1 TX1 tyX1 := ⟨rfl, cw_X1, rfl, tb_217, tb_46, by decide +kernel⟩
theorem cw_X2 : CW RX2 TX2 3 tyX2 := ⟨fun w hw => List.mem_filter.mpr ⟨(by decide +kernel : ∀ w ∈ u_ws RX2 TX2 3, w ∈ lw_tbl) w hw, (by decide +kernel : ∀ w ∈ u_ws RX2 TX2 3, goodWord w = true) w hw⟩, tyX2_ok, nmX2⟩
theorem cn_X2 : CN RX2 3 2 TX2 tyX2 := ⟨rfl, cw_X2, rfl, tb_251, tb_47, by decide +kernel⟩
theorem cw_X3 : CW RX3 TX3 13 tyX3 := ⟨fun w hw => List.mem_filter.mpr ⟨(by decide +kernel : ∀ w ∈ u_ws RX3 TX3 13, w ∈ lw_tbl) w hw, (by decide +kernel : ∀ w ∈ u_ws RX3 TX3 13, goodWord w = true) w hw⟩, tyX3_ok, nmX3⟩
theorem cn_X3 : CN RX3 13 3 TX3 tyX3 := ⟨rfl, cw_X3, rfl, tb_63, tb_41, by decide +kernel⟩
theorem cw_X4 : CW RX4 TX4 3 tyX4 := ⟨fun w hw => List.mem_filter.mpr ⟨(by decide +kernel : ∀ w ∈ u_ws RX4 TX4 3, w ∈ lw_tbl) w hw, (by decide +kernel : ∀ w ∈ u_ws RX4 TX4 3, goodWord w = true) w hw⟩, tyX4_ok, nmX4⟩
theorem cn_X4 : CN RX4 3 4 TX4 tyX4 := ⟨rfl, cw_X4, rfl, tb_173, tb_43, by decide +kernel⟩
theorem cw_X5 : CW RX5 TX5 3 tyX5 := ⟨fun w hw => List.mem_filter.mpr ⟨(by decide +kernel : ∀ w ∈ u_ws RX5 TX5 3, w ∈ lw_tbl) w hw, (by decide +kernel : ∀ w ∈ u_ws RX5 TX5 3, goodWord w = true) w hw⟩, tyX5_ok, nmX5⟩
theorem cn_X5 : CN RX5 3 5 TX5 tyX5 := ⟨rfl, cw_X5, rfl, tb_196, tb_45, by decide +kernel⟩
theorem cw_X6 : CW RX6 TX6 11 tyX6 := ⟨fun w hw => List.mem_filter.mpr ⟨(by decide +kernel : ∀ w ∈ u_ws RX6 TX6 11, w ∈ lw_tbl) w hw, (by decide +kernel : ∀ w ∈ u_ws RX6 TX6 11, goodWord w = true) w hw⟩, tyX6_ok, nmX6⟩
theorem cn_X6 : CN RX6 11 6 TX6 tyX6 := ⟨rfl, cw_X6, rfl, tb_55, tb_40, by decide +kernel⟩
theorem cw_X7 : CW RX7 TX7 27 tyX7 := ⟨fun w hw => List.mem_filter.mpr ⟨(by decide +kernel : ∀ w ∈ u_ws RX7 TX7 27, w ∈ lw_tbl) w hw, (by decide +kernel : ∀ w ∈ u_ws RX7 TX7 27, goodWord w = true) w hw⟩, tyX7_ok, nmX7⟩
theorem cn_X7 : CN RX7 27 7 TX7 tyX7 := ⟨rfl, cw_X7, rfl, tb_754, tb_52, by decide +kernel⟩
theorem fl_RX6_9 : FL RX6 9 6 0 true "[C" := ⟨RX6, TX6, 11, tyX6, rfl, by decide, cw_X6, rfl, rfl, rfl, rfl, Or.inl tb_364⟩
theorem fl_RX6_16 : FL RX6 16 6 2 false "LStretchedCarpet$Room;" := ⟨RX6, TX6, 11, tyX6, rfl, by decide, cw_X6, rfl, rfl, rfl, rfl, Or.inl tb_366⟩
theorem fl_RX6_20 : FL RX6 20 6 3 false "LStretchedCarpet$Room;" := ⟨RX6, TX6, 11, tyX6, rfl, by decide, cw_X6, rfl, rfl, rfl, rfl, Or.inl tb_367⟩
theorem fl_RX6_26 : FL RX6 26 6 4 true "LStretchedCarpet$Carpet;" := ⟨RX6, TX6, 11, tyX6, rfl, by decide, cw_X6, rfl, rfl, rfl, rfl, Or.inl tb_368⟩
theorem fl_RX6_30 : FL RX6 30 6 5 true "LStretchedCarpet$Carpet;" := ⟨RX6, TX6, 11, tyX6, rfl, by decide, cw_X6, rfl, rfl, rfl, rfl, Or.inl tb_369⟩
theorem fl_RX6_38 : FL RX6 38 6 6 true "LStretchedCarpet$Shelf;" := ⟨RX6, TX6, 11, tyX6, rfl, by decide, cw_X6, rfl, rfl, rfl, rfl, Or.inl tb_370⟩
theorem fl_RX6_42 : FL RX6 42 6 7 true "LStretchedCarpet$Shelf;" := ⟨RX6, TX6, 11, tyX6, rfl, by decide, cw_X6, rfl, rfl, rfl, rfl, Or.inl tb_371⟩
theorem fl_RX6_48 : FL RX6 48 6 8 true "LStretchedCarpet$Sightings;" := ⟨RX6, TX6, 11, tyX6, rfl, by decide, cw_X6, rfl, rfl, rfl, rfl, Or.inl tb_372⟩
theorem fl_RX6_55 : FL RX6 55 6 9 true "LStretchedCarpet$CutPlan;" := ⟨RX6, TX6, 11, tyX6, rfl, by decide, cw_X6, rfl, rfl, rfl, rfl, Or.inl tb_373⟩
theorem fl_RX6_62 : FL RX6 62 6 10 true "LStretchedCarpet$HookOrder;" := ⟨RX6, TX6, 11, tyX6, rfl, by decide, cw_X6, rfl, rfl, rfl, rfl, Or.inl tb_374⟩
theorem fl_RX6_82 : FL RX6 82 3 8 false "I" := ⟨RX3, TX3, 13, tyX3, rfl, by decide, cw_X3, rfl, rfl, rfl, rfl, Or.inr ⟨Or.inl rfl, "StretchedCarpet", tb_86⟩⟩
theorem fl_RX6_93 : FL RX6 93 6 1 false "I" := ⟨RX6, TX6, 11, tyX6, rfl, by decide, cw_X6, rfl, rfl, rfl, rfl, Or.inl tb_365⟩
theorem fl_RX6_96 : FL RX6 96 3 5 false "I" := ⟨RX3, TX3, 13, tyX3, rfl, by decide, cw_X3, rfl, rfl, rfl, rfl, Or.inr ⟨Or.inl rfl, "StretchedCarpet", tb_80⟩⟩
theorem fl_RX6_163 : FL RX6 163 0 7 false "I" := ⟨RX0, TX0, 8, tyX0, rfl, by decide, cw_X0, rfl, rfl, rfl, rfl, Or.inr ⟨Or.inl rfl, "StretchedCarpet", tb_154⟩⟩
theorem fl_RX6_174 : FL RX6 174 4 2 false "I" := ⟨RX4, TX4, 3, tyX4, rfl, by decide, cw_X4, rfl, rfl, rfl, rfl, Or.inr ⟨Or.inl rfl, "StretchedCarpet", tb_187⟩⟩
theorem fl_RX6_181 : FL RX6 181 1 5 false "Z" := ⟨RX1, TX1, 8, tyX1, rfl, by decide, cw_X1, rfl, rfl, rfl, rfl, Or.inr ⟨Or.inl rfl, "StretchedCarpet", tb_228⟩⟩
theorem fl_RX6_185 : FL RX6 185 1 6 false "I" := ⟨RX1, TX1, 8, tyX1, rfl, by decide, cw_X1, rfl, rfl, rfl, rfl, Or.inr ⟨Or.inl rfl, "StretchedCarpet", tb_230⟩⟩
theorem fl_RX6_188 : FL RX6 188 1 7 false "I" := ⟨RX1, TX1, 8, tyX1, rfl, by decide, cw_X1, rfl, rfl, rfl, rfl, Or.inr ⟨Or.inl rfl, "StretchedCarpet", tb_232⟩⟩
theorem fl_RX6_197 : FL RX6 197 2 2 false "I" := ⟨RX2, TX2, 3, tyX2, rfl, by decide, cw_X2, rfl, rfl, rfl, rfl, Or.inr ⟨Or.inl rfl, "StretchedCarpet", tb_259⟩⟩
theorem fl_RX6_219 : FL RX6 219 5 2 false "I" := ⟨RX5, TX5, 3, tyX5, rfl, by decide, cw_X5, rfl, rfl, rfl, rfl, Or.inr ⟨Or.inl rfl, "StretchedCarpet", tb_208⟩⟩
theorem fl_RX6_220 : FL RX6 220 3 12 false "I" := ⟨RX3, TX3, 13, tyX3, rfl, by decide, cw_X3, rfl, rfl, rfl, rfl, Or.inr ⟨Or.inl rfl, "StretchedCarpet", tb_96⟩⟩
theorem fl_RX6_226 : FL RX6 226 3 11 false "I" := ⟨RX3, TX3, 13, tyX3, rfl, by decide, cw_X3, rfl, rfl, rfl, rfl, Or.inr ⟨Or.inl rfl, "StretchedCarpet", tb_93⟩⟩
theorem fl_RX6_236 : FL RX6 236 3 7 false "I" := ⟨RX3, TX3, 13, tyX3, rfl, by decide, cw_X3, rfl, rfl, rfl, rfl, Or.inr ⟨Or.inl rfl, "StretchedCarpet", tb_85⟩⟩
theorem fl_RX6_239 : FL RX6 239 0 4 false "I" := ⟨RX0, TX0, 8, tyX0, rfl, by decide, cw_X0, rfl, rfl, rfl, rfl, Or.inr ⟨Or.inl rfl, "StretchedCarpet", tb_147⟩⟩
theorem fl_RX6_266 : FL RX6 266 0 6 false "I" := ⟨RX0, TX0, 8, tyX0, rfl, by decide, cw_X0, rfl, rfl, rfl, rfl, Or.inr ⟨Or.inl rfl, "StretchedCarpet", tb_152⟩⟩
theorem fl_RX6_281 : FL RX6 281 0 2 false "I" := ⟨RX0, TX0, 8, tyX0, rfl, by decide, cw_X0, rfl, rfl, rfl, rfl, Or.inr ⟨Or.inl rfl, "StretchedCarpet", tb_142⟩⟩
theorem fl_RX6_287 : FL RX6 287 0 5 false "I" := ⟨RX0, TX0, 8, tyX0, rfl, by decide, cw_X0, rfl, rfl, rfl, rfl, Or.inr ⟨Or.inl rfl, "StretchedCarpet", tb_150⟩⟩
theorem fl_RX0_9 : FL RX0 9 0 0 true "[I" := ⟨RX0, TX0, 8, tyX0, rfl, by decide, cw_X0, rfl, rfl, rfl, rfl, Or.inl tb_139⟩
theorem fl_RX0_15 : FL RX0 15 0 1 true "[I" := ⟨RX0, TX0, 8, tyX0, rfl, by decide, cw_X0, rfl, rfl, rfl, rfl, Or.inl tb_140⟩
theorem fl_RX0_26 : FL RX0 26 0 2 false "I" := ⟨RX0, TX0, 8, tyX0, rfl, by decide, cw_X0, rfl, rfl, rfl, rfl, Or.inl tb_141⟩
theorem fl_RX0_30 : FL RX0 30 0 3 false "I" := ⟨RX0, TX0, 8, tyX0, rfl, by decide, cw_X0, rfl, rfl, rfl, rfl, Or.inl tb_144⟩
theorem fl_RX0_33 : FL RX0 33 0 4 false "I" := ⟨RX0, TX0, 8, tyX0, rfl, by decide, cw_X0, rfl, rfl, rfl, rfl, Or.inl tb_145⟩
theorem fl_RX0_36 : FL RX0 36 0 5 false "I" := ⟨RX0, TX0, 8, tyX0, rfl, by decide, cw_X0, rfl, rfl, rfl, rfl, Or.inl tb_148⟩
theorem fl_RX0_39 : FL RX0 39 0 6 false "I" := ⟨RX0, TX0, 8, tyX0, rfl, by decide, cw_X0, rfl, rfl, rfl, rfl, Or.inl tb_151⟩
theorem fl_RX0_42 : FL RX0 42 0 7 false "I" := ⟨RX0, TX0, 8, tyX0, rfl, by decide, cw_X0, rfl, rfl, rfl, rfl, Or.inl tb_153⟩
theorem fl_RX0_49 : FL RX0 49 3 5 false "I" := ⟨RX3, TX3, 13, tyX3, rfl, by decide, cw_X3, rfl, rfl, rfl, rfl, Or.inr ⟨Or.inl rfl, "StretchedCarpet", tb_79⟩⟩
theorem fl_RX0_54 : FL RX0 54 3 7 false "I" := ⟨RX3, TX3, 13, tyX3, rfl, by decide, cw_X3, rfl, rfl, rfl, rfl, Or.inr ⟨Or.inl rfl, "StretchedCarpet", tb_84⟩⟩
theorem fl_RX0_79 : FL RX0 79 3 11 false "I" := ⟨RX3, TX3, 13, tyX3, rfl, by decide, cw_X3, rfl, rfl, rfl, rfl, Or.inr ⟨Or.inl rfl, "StretchedCarpet", tb_92⟩⟩
theorem fl_RX0_82 : FL RX0 82 3 12 false "I" := ⟨RX3, TX3, 13, tyX3, rfl, by decide, cw_X3, rfl, rfl, rfl, rfl, Or.inr ⟨Or.inl rfl, "StretchedCarpet", tb_95⟩⟩
theorem fl_RX0_103 : FL RX0 103 3 10 false "I" := ⟨RX3, TX3, 13, tyX3, rfl, by decide, cw_X3, rfl, rfl, rfl, rfl, Or.inr ⟨Or.inl rfl, "StretchedCarpet", tb_90⟩⟩
theorem fl_RX1_9 : FL RX1 9 1 0 true "[I" := ⟨RX1, TX1, 8, tyX1, rfl, by decide, cw_X1, rfl, rfl, rfl, rfl, Or.inl tb_222⟩
theorem fl_RX1_15 : FL RX1 15 1 1 true "[I" := ⟨RX1, TX1, 8, tyX1, rfl, by decide, cw_X1, rfl, rfl, rfl, rfl, Or.inl tb_223⟩
theorem fl_RX1_18 : FL RX1 18 1 2 true "[I" := ⟨RX1, TX1, 8, tyX1, rfl, by decide, cw_X1, rfl, rfl, rfl, rfl, Or.inl tb_224⟩
theorem fl_RX1_21 : FL RX1 21 1 5 false "Z" := ⟨RX1, TX1, 8, tyX1, rfl, by decide, cw_X1, rfl, rfl, rfl, rfl, Or.inl tb_227⟩
theorem fl_RX1_25 : FL RX1 25 0 3 false "I" := ⟨RX0, TX0, 8, tyX0, rfl, by decide, cw_X0, rfl, rfl, rfl, rfl, Or.inr ⟨Or.inl rfl, "StretchedCarpet", tb_143⟩⟩
theorem fl_RX1_31 : FL RX1 31 1 3 false "I" := ⟨RX1, TX1, 8, tyX1, rfl, by decide, cw_X1, rfl, rfl, rfl, rfl, Or.inl tb_225⟩
theorem fl_RX1_34 : FL RX1 34 3 5 false "I" := ⟨RX3, TX3, 13, tyX3, rfl, by decide, cw_X3, rfl, rfl, rfl, rfl, Or.inr ⟨Or.inl rfl, "StretchedCarpet", tb_78⟩⟩
theorem fl_RX1_39 : FL RX1 39 1 4 false "I" := ⟨RX1, TX1, 8, tyX1, rfl, by decide, cw_X1, rfl, rfl, rfl, rfl, Or.inl tb_226⟩
theorem fl_RX1_54 : FL RX1 54 1 6 false "I" := ⟨RX1, TX1, 8, tyX1, rfl, by decide, cw_X1, rfl, rfl, rfl, rfl, Or.inl tb_229⟩
theorem fl_RX1_57 : FL RX1 57 1 7 false "I" := ⟨RX1, TX1, 8, tyX1, rfl, by decide, cw_X1, rfl, rfl, rfl, rfl, Or.inl tb_231⟩
theorem fl_RX1_60 : FL RX1 60 0 4 false "I" := ⟨RX0, TX0, 8, tyX0, rfl, by decide, cw_X0, rfl, rfl, rfl, rfl, Or.inr ⟨Or.inl rfl, "StretchedCarpet", tb_146⟩⟩
theorem fl_RX1_70 : FL RX1 70 3 7 false "I" := ⟨RX3, TX3, 13, tyX3, rfl, by decide, cw_X3, rfl, rfl, rfl, rfl, Or.inr ⟨Or.inl rfl, "StretchedCarpet", tb_83⟩⟩
theorem fl_RX2_9 : FL RX2 9 2 2 false "I" := ⟨RX2, TX2, 3, tyX2, rfl, by decide, cw_X2, rfl, rfl, rfl, rfl, Or.inl tb_258⟩
theorem fl_RX2_15 : FL RX2 15 2 0 false "I" := ⟨RX2, TX2, 3, tyX2, rfl, by decide, cw_X2, rfl, rfl, rfl, rfl, Or.inl tb_256⟩
theorem fl_RX2_32 : FL RX2 32 2 1 false "I" := ⟨RX2, TX2, 3, tyX2, rfl, by decide, cw_X2, rfl, rfl, rfl, rfl, Or.inl tb_257⟩
theorem fl_RX2_43 : FL RX2 43 0 5 false "I" := ⟨RX0, TX0, 8, tyX0, rfl, by decide, cw_X0, rfl, rfl, rfl, rfl, Or.inr ⟨Or.inl rfl, "StretchedCarpet", tb_149⟩⟩
theorem fl_RX3_9 : FL RX3 9 3 0 true "[I" := ⟨RX3, TX3, 13, tyX3, rfl, by decide, cw_X3, rfl, rfl, rfl, rfl, Or.inl tb_72⟩
theorem fl_RX3_15 : FL RX3 15 3 1 true "[I" := ⟨RX3, TX3, 13, tyX3, rfl, by decide, cw_X3, rfl, rfl, rfl, rfl, Or.inl tb_73⟩
theorem fl_RX3_18 : FL RX3 18 3 2 true "[I" := ⟨RX3, TX3, 13, tyX3, rfl, by decide, cw_X3, rfl, rfl, rfl, rfl, Or.inl tb_74⟩
theorem fl_RX3_21 : FL RX3 21 3 3 true "[I" := ⟨RX3, TX3, 13, tyX3, rfl, by decide, cw_X3, rfl, rfl, rfl, rfl, Or.inl tb_75⟩
theorem fl_RX3_24 : FL RX3 24 3 4 true "[I" := ⟨RX3, TX3, 13, tyX3, rfl, by decide, cw_X3, rfl, rfl, rfl, rfl, Or.inl tb_76⟩
theorem fl_RX3_30 : FL RX3 30 3 5 false "I" := ⟨RX3, TX3, 13, tyX3, rfl, by decide, cw_X3, rfl, rfl, rfl, rfl, Or.inl tb_77⟩
theorem fl_RX3_34 : FL RX3 34 3 6 false "I" := ⟨RX3, TX3, 13, tyX3, rfl, by decide, cw_X3, rfl, rfl, rfl, rfl, Or.inl tb_81⟩
theorem fl_RX3_37 : FL RX3 37 3 7 false "I" := ⟨RX3, TX3, 13, tyX3, rfl, by decide, cw_X3, rfl, rfl, rfl, rfl, Or.inl tb_82⟩
theorem fl_RX3_40 : FL RX3 40 3 8 false "I" := ⟨RX3, TX3, 13, tyX3, rfl, by decide, cw_X3, rfl, rfl, rfl, rfl, Or.inl tb_87⟩
theorem fl_RX3_43 : FL RX3 43 3 9 false "I" := ⟨RX3, TX3, 13, tyX3, rfl, by decide, cw_X3, rfl, rfl, rfl, rfl, Or.inl tb_88⟩
theorem fl_RX3_46 : FL RX3 46 3 10 false "I" := ⟨RX3, TX3, 13, tyX3, rfl, by decide, cw_X3, rfl, rfl, rfl, rfl, Or.inl tb_89⟩
theorem fl_RX3_49 : FL RX3 49 3 11 false "I" := ⟨RX3, TX3, 13, tyX3, rfl, by decide, cw_X3, rfl, rfl, rfl, rfl, Or.inl tb_91⟩
theorem fl_RX3_52 : FL RX3 52 3 12 false "I" := ⟨RX3, TX3, 13, tyX3, rfl, by decide, cw_X3, rfl, rfl, rfl, rfl, Or.inl tb_94⟩
theorem fl_RX4_15 : FL RX4 15 4 0 true "[LStretchedCarpet$Carpet;" := ⟨RX4, TX4, 3, tyX4, rfl, by decide, cw_X4, rfl, rfl, rfl, rfl, Or.inl tb_184⟩
theorem fl_RX4_22 : FL RX4 22 4 1 false "I" := ⟨RX4, TX4, 3, tyX4, rfl, by decide, cw_X4, rfl, rfl, rfl, rfl, Or.inl tb_185⟩
theorem fl_RX4_26 : FL RX4 26 4 2 false "I" := ⟨RX4, TX4, 3, tyX4, rfl, by decide, cw_X4, rfl, rfl, rfl, rfl, Or.inl tb_186⟩
theorem fl_RX5_11 : FL RX5 11 5 0 true "[I" := ⟨RX5, TX5, 3, tyX5, rfl, by decide, cw_X5, rfl, rfl, rfl, rfl, Or.inl tb_205⟩
theorem fl_RX5_15 : FL RX5 15 5 1 true "[I" := ⟨RX5, TX5, 3, tyX5, rfl, by decide, cw_X5, rfl, rfl, rfl, rfl, Or.inl tb_206⟩
theorem fl_RX5_21 : FL RX5 21 5 2 false "I" := ⟨RX5, TX5, 3, tyX5, rfl, by decide, cw_X5, rfl, rfl, rfl, rfl, Or.inl tb_207⟩
theorem fl_RX7_7 : FL RX7 7 7 1 true "[I" := ⟨RX7, TX7, 27, tyX7, rfl, by decide, cw_X7, rfl, rfl, rfl, rfl, Or.inl tb_764⟩
theorem fl_RX7_13 : FL RX7 13 7 6 true "[I" := ⟨RX7, TX7, 27, tyX7, rfl, by decide, cw_X7, rfl, rfl, rfl, rfl, Or.inl tb_769⟩
theorem fl_RX7_16 : FL RX7 16 7 7 true "[I" := ⟨RX7, TX7, 27, tyX7, rfl, by decide, cw_X7, rfl, rfl, rfl, rfl, Or.inl tb_770⟩
theorem fl_RX7_19 : FL RX7 19 7 8 true "[I" := ⟨RX7, TX7, 27, tyX7, rfl, by decide, cw_X7, rfl, rfl, rfl, rfl, Or.inl tb_771⟩
theorem fl_RX7_22 : FL RX7 22 7 11 true "[I" := ⟨RX7, TX7, 27, tyX7, rfl, by decide, cw_X7, rfl, rfl, rfl, rfl, Or.inl tb_774⟩
theorem fl_RX7_25 : FL RX7 25 7 12 true "[I" := ⟨RX7, TX7, 27, tyX7, rfl, by decide, cw_X7, rfl, rfl, rfl, rfl, Or.inl tb_775⟩
theorem fl_RX7_28 : FL RX7 28 7 13 true "[I" := ⟨RX7, TX7, 27, tyX7, rfl, by decide, cw_X7, rfl, rfl, rfl, rfl, Or.inl tb_776⟩
theorem fl_RX7_31 : FL RX7 31 7 14 true "[I" := ⟨RX7, TX7, 27, tyX7, rfl, by decide, cw_X7, rfl, rfl, rfl, rfl, Or.inl tb_777⟩
theorem fl_RX7_34 : FL RX7 34 7 15 true "[I" := ⟨RX7, TX7, 27, tyX7, rfl, by decide, cw_X7, rfl, rfl, rfl, rfl, Or.inl tb_778⟩
theorem fl_RX7_37 : FL RX7 37 7 16 true "[I" := ⟨RX7, TX7, 27, tyX7, rfl, by decide, cw_X7, rfl, rfl, rfl, rfl, Or.inl tb_779⟩
theorem fl_RX7_40 : FL RX7 40 7 18 true "[I" := ⟨RX7, TX7, 27, tyX7, rfl, by decide, cw_X7, rfl, rfl, rfl, rfl, Or.inl tb_781⟩
theorem fl_RX7_43 : FL RX7 43 7 21 true "[I" := ⟨RX7, TX7, 27, tyX7, rfl, by decide, cw_X7, rfl, rfl, rfl, rfl, Or.inl tb_784⟩
theorem fl_RX7_46 : FL RX7 46 7 22 true "[I" := ⟨RX7, TX7, 27, tyX7, rfl, by decide, cw_X7, rfl, rfl, rfl, rfl, Or.inl tb_785⟩
theorem fl_RX7_49 : FL RX7 49 7 23 true "[I" := ⟨RX7, TX7, 27, tyX7, rfl, by decide, cw_X7, rfl, rfl, rfl, rfl, Or.inl tb_786⟩
theorem fl_RX7_56 : FL RX7 56 7 9 false "I" := ⟨RX7, TX7, 27, tyX7, rfl, by decide, cw_X7, rfl, rfl, rfl, rfl, Or.inl tb_772⟩
theorem fl_RX7_60 : FL RX7 60 7 10 false "I" := ⟨RX7, TX7, 27, tyX7, rfl, by decide, cw_X7, rfl, rfl, rfl, rfl, Or.inl tb_773⟩
theorem fl_RX7_67 : FL RX7 67 7 0 false "I" := ⟨RX7, TX7, 27, tyX7, rfl, by decide, cw_X7, rfl, rfl, rfl, rfl, Or.inl tb_763⟩
theorem fl_RX7_70 : FL RX7 70 7 3 false "I" := ⟨RX7, TX7, 27, tyX7, rfl, by decide, cw_X7, rfl, rfl, rfl, rfl, Or.inl tb_766⟩
theorem fl_RX7_73 : FL RX7 73 7 2 false "I" := ⟨RX7, TX7, 27, tyX7, rfl, by decide, cw_X7, rfl, rfl, rfl, rfl, Or.inl tb_765⟩
theorem fl_RX7_80 : FL RX7 80 7 4 false "I" := ⟨RX7, TX7, 27, tyX7, rfl, by decide, cw_X7, rfl, rfl, rfl, rfl, Or.inl tb_767⟩
theorem fl_RX7_86 : FL RX7 86 7 5 false "I" := ⟨RX7, TX7, 27, tyX7, rfl, by decide, cw_X7, rfl, rfl, rfl, rfl, Or.inl tb_768⟩
theorem fl_RX7_114 : FL RX7 114 7 20 false "I" := ⟨RX7, TX7, 27, tyX7, rfl, by decide, cw_X7, rfl, rfl, rfl, rfl, Or.inl tb_783⟩
theorem fl_RX7_117 : FL RX7 117 7 17 false "I" := ⟨RX7, TX7, 27, tyX7, rfl, by decide, cw_X7, rfl, rfl, rfl, rfl, Or.inl tb_780⟩
theorem fl_RX7_120 : FL RX7 120 7 19 false "I" := ⟨RX7, TX7, 27, tyX7, rfl, by decide, cw_X7, rfl, rfl, rfl, rfl, Or.inl tb_782⟩
theorem fl_RX7_183 : FL RX7 183 7 25 false "I" := ⟨RX7, TX7, 27, tyX7, rfl, by decide, cw_X7, rfl, rfl, rfl, rfl, Or.inl tb_788⟩
theorem fl_RX7_186 : FL RX7 186 7 26 false "I" := ⟨RX7, TX7, 27, tyX7, rfl, by decide, cw_X7, rfl, rfl, rfl, rfl, Or.inl tb_789⟩
theorem fl_RX7_193 : FL RX7 193 7 24 false "I" := ⟨RX7, TX7, 27, tyX7, rfl, by decide, cw_X7, rfl, rfl, rfl, rfl, Or.inl tb_787⟩
theorem mc_J6_bitCount_0f7a4 : MS m_J6_bitCount_0f7a4 1 := ⟨⟨tb_538, tb_53, by decide +kernel⟩, tb_537⟩
theorem n0_J6_bitCount_0f7a4 : N0 m_J6_bitCount_0f7a4 := ⟨rfl, rfl⟩
theorem mc_J9_max_7cf53 : MS m_J9_max_7cf53 2 := ⟨⟨tb_180, tb_44, by decide +kernel⟩, tb_179⟩
theorem n0_J9_max_7cf53 : N0 m_J9_max_7cf53 := ⟨rfl, rfl⟩
theorem mc_J9_min_7cf53 : MS m_J9_min_7cf53 2 := ⟨⟨tb_510, tb_44, by decide +kernel⟩, tb_509⟩
theorem n0_J9_min_7cf53 : N0 m_J9_min_7cf53 := ⟨rfl, rfl⟩
theorem mc_X0_areaOfRests : MV m_X0_areaOfRests 1 := ⟨⟨tb_697, tb_42, by decide +kernel⟩, tb_695, tb_696⟩
theorem n0_X0_areaOfRests : N0 m_X0_areaOfRests := ⟨rfl, rfl⟩
theorem mc_X0_canCut : MV m_X0_canCut 2 := ⟨⟨tb_487, tb_42, by decide +kernel⟩, tb_485, tb_486⟩
theorem n0_X0_canCut : N0 m_X0_canCut := ⟨rfl, rfl⟩
theorem mc_X0_clear : MV m_X0_clear 1 := ⟨⟨tb_135, tb_42, by decide +kernel⟩, tb_133, tb_134⟩
theorem n0_X0_clear : N0 m_X0_clear := ⟨rfl, rfl⟩
theorem mc_X0_copyFrom : MV m_X0_copyFrom 1 := ⟨⟨tb_504, tb_42, by decide +kernel⟩, tb_502, tb_503⟩
theorem n0_X0_copyFrom : N0 m_X0_copyFrom := ⟨rfl, rfl⟩
theorem mc_X0_cutFor : MV m_X0_cutFor 2 := ⟨⟨tb_514, tb_42, by decide +kernel⟩, tb_512, tb_513⟩
theorem n0_X0_cutFor : N0 m_X0_cutFor := ⟨rfl, rfl⟩
theorem mc_X0_hasRestFor : MV m_X0_hasRestFor 3 := ⟨⟨tb_689, tb_42, by decide +kernel⟩, tb_687, tb_688⟩
theorem n0_X0_hasRestFor : N0 m_X0_hasRestFor := ⟨rfl, rfl⟩
theorem mc_X0_hookOn : MV m_X0_hookOn 3 := ⟨⟨tb_531, tb_42, by decide +kernel⟩, tb_529, tb_530⟩
theorem n0_X0_hookOn : N0 m_X0_hookOn := ⟨rfl, rfl⟩
theorem mc_X0_init : MI m_X0_init 0 := ⟨⟨tb_130, tb_42, by decide +kernel⟩, tb_129, rfl, rfl⟩
theorem mc_X0_isCovered : MV m_X0_isCovered 1 := ⟨⟨tb_522, tb_42, by decide +kernel⟩, tb_520, tb_521⟩
theorem n0_X0_isCovered : N0 m_X0_isCovered := ⟨rfl, rfl⟩
theorem mc_X0_isFree : MV m_X0_isFree 1 := ⟨⟨tb_526, tb_42, by decide +kernel⟩, tb_524, tb_525⟩
theorem n0_X0_isFree : N0 m_X0_isFree := ⟨rfl, rfl⟩
theorem mc_X0_isHooked : MV m_X0_isHooked 1 := ⟨⟨tb_461, tb_42, by decide +kernel⟩, tb_459, tb_460⟩
theorem n0_X0_isHooked : N0 m_X0_isHooked := ⟨rfl, rfl⟩
theorem mc_X0_isSeamAt : MV m_X0_isSeamAt 1 := ⟨⟨tb_445, tb_42, by decide +kernel⟩, tb_443, tb_444⟩
theorem n0_X0_isSeamAt : N0 m_X0_isSeamAt := ⟨rfl, rfl⟩
theorem mc_X0_isTorn : MV m_X0_isTorn 1 := ⟨⟨tb_465, tb_42, by decide +kernel⟩, tb_463, tb_464⟩
theorem n0_X0_isTorn : N0 m_X0_isTorn := ⟨rfl, rfl⟩
theorem mc_X0_isWaving : MV m_X0_isWaving 1 := ⟨⟨tb_469, tb_42, by decide +kernel⟩, tb_467, tb_468⟩
theorem n0_X0_isWaving : N0 m_X0_isWaving := ⟨rfl, rfl⟩
theorem mc_X0_leastKick : MV m_X0_leastKick 3 := ⟨⟨tb_626, tb_42, by decide +kernel⟩, tb_624, tb_625⟩
theorem n0_X0_leastKick : N0 m_X0_leastKick := ⟨rfl, rfl⟩
theorem mc_X0_lengthOver : MV m_X0_lengthOver 1 := ⟨⟨tb_440, tb_42, by decide +kernel⟩, tb_438, tb_439⟩
theorem n0_X0_lengthOver : N0 m_X0_lengthOver := ⟨rfl, rfl⟩
theorem mc_X0_monthsToWave : MV m_X0_monthsToWave 2 := ⟨⟨tb_644, tb_42, by decide +kernel⟩, tb_642, tb_643⟩
theorem n0_X0_monthsToWave : N0 m_X0_monthsToWave := ⟨rfl, rfl⟩
theorem mc_X0_passMonth : MV m_X0_passMonth 1 := ⟨⟨tb_561, tb_42, by decide +kernel⟩, tb_559, tb_560⟩
theorem n0_X0_passMonth : N0 m_X0_passMonth := ⟨rfl, rfl⟩
theorem mc_X0_takeStep : MV m_X0_takeStep 2 := ⟨⟨tb_727, tb_42, by decide +kernel⟩, tb_725, tb_726⟩
theorem n0_X0_takeStep : N0 m_X0_takeStep := ⟨rfl, rfl⟩
theorem mc_X0_tightness : MV m_X0_tightness 1 := ⟨⟨tb_457, tb_42, by decide +kernel⟩, tb_455, tb_456⟩
theorem n0_X0_tightness : N0 m_X0_tightness := ⟨rfl, rfl⟩
theorem mc_X0_tightnessBy : MV m_X0_tightnessBy 3 := ⟨⟨tb_535, tb_42, by decide +kernel⟩, tb_533, tb_534⟩
theorem n0_X0_tightnessBy : N0 m_X0_tightnessBy := ⟨rfl, rfl⟩
theorem mc_X0_tightnessInAll : MV m_X0_tightnessInAll 0 := ⟨⟨tb_736, tb_42, by decide +kernel⟩, tb_734, tb_735⟩
theorem n0_X0_tightnessInAll : N0 m_X0_tightnessInAll := ⟨rfl, rfl⟩
theorem mc_X0_unhook : MV m_X0_unhook 1 := ⟨⟨tb_553, tb_42, by decide +kernel⟩, tb_551, tb_552⟩
theorem n0_X0_unhook : N0 m_X0_unhook := ⟨rfl, rfl⟩
theorem mc_X1_breadthOf : MV m_X1_breadthOf 1 := ⟨⟨tb_600, tb_46, by decide +kernel⟩, tb_598, tb_599⟩
theorem n0_X1_breadthOf : N0 m_X1_breadthOf := ⟨rfl, rfl⟩
theorem mc_X1_choose : MV m_X1_choose 2 := ⟨⟨tb_587, tb_46, by decide +kernel⟩, tb_586, tp_X1_choose⟩
theorem n0_X1_choose : N0 m_X1_choose := ⟨rfl, rfl⟩
theorem mc_X1_init : MI m_X1_init 0 := ⟨⟨tb_220, tb_46, by decide +kernel⟩, tb_219, rfl, rfl⟩
theorem mc_X1_isLess : MV m_X1_isLess 3 := ⟨⟨tb_596, tb_46, by decide +kernel⟩, tb_595, tp_X1_isLess⟩
theorem n0_X1_isLess : N0 m_X1_isLess := ⟨rfl, rfl⟩
theorem mc_X1_make : MV m_X1_make 2 := ⟨⟨tb_582, tb_46, by decide +kernel⟩, tb_580, tb_581⟩
theorem n0_X1_make : N0 m_X1_make := ⟨rfl, rfl⟩
theorem mc_X2_init : MI m_X2_init 0 := ⟨⟨tb_254, tb_47, by decide +kernel⟩, tb_253, rfl, rfl⟩
theorem n0_X2_init : N0 m_X2_init := ⟨rfl, rfl⟩
theorem mc_X2_isOrder : MV m_X2_isOrder 2 := ⟨⟨tb_613, tb_47, by decide +kernel⟩, tb_612, tp_X2_isOrder⟩
theorem n0_X2_isOrder : N0 m_X2_isOrder := ⟨rfl, rfl⟩
theorem mc_X2_kicksOf : MV m_X2_kicksOf 4 := ⟨⟨tb_621, tb_47, by decide +kernel⟩, tb_620, tp_X2_kicksOf⟩
theorem n0_X2_kicksOf : N0 m_X2_kicksOf := ⟨rfl, rfl⟩
theorem mc_X2_make : MV m_X2_make 3 := ⟨⟨tb_608, tb_47, by decide +kernel⟩, tb_606, tb_607⟩
theorem n0_X2_make : N0 m_X2_make := ⟨rfl, rfl⟩
theorem mc_X2_wallAt : MV m_X2_wallAt 1 := ⟨⟨tb_631, tb_47, by decide +kernel⟩, tb_629, tb_630⟩
theorem n0_X2_wallAt : N0 m_X2_wallAt := ⟨rfl, rfl⟩
theorem mc_X2_wallIn : MV m_X2_wallIn 2 := ⟨⟨tb_617, tb_47, by decide +kernel⟩, tb_616, tp_X2_wallIn⟩
theorem n0_X2_wallIn : N0 m_X2_wallIn := ⟨rfl, rfl⟩
theorem mc_X3_clear : MV m_X3_clear 0 := ⟨⟨tb_71, tb_41, by decide +kernel⟩, tb_70, tp_X3_clear⟩
theorem n0_X3_clear : N0 m_X3_clear := ⟨rfl, rfl⟩
theorem mc_X3_dampOf : MV m_X3_dampOf 1 := ⟨⟨tb_479, tb_41, by decide +kernel⟩, tb_477, tb_478⟩
theorem n0_X3_dampOf : N0 m_X3_dampOf := ⟨rfl, rfl⟩
theorem mc_X3_figuresAt : MS m_X3_figuresAt 3 := ⟨⟨tb_337, tb_41, by decide +kernel⟩, tb_336⟩
theorem n0_X3_figuresAt : N0 m_X3_figuresAt := ⟨rfl, rfl⟩
theorem mc_X3_init : MI m_X3_init 0 := ⟨⟨tb_66, tb_41, by decide +kernel⟩, tb_65, rfl, rfl⟩
theorem mc_X3_isFigure : MS m_X3_isFigure 1 := ⟨⟨tb_340, tb_41, by decide +kernel⟩, tb_339⟩
theorem n0_X3_isFigure : N0 m_X3_isFigure := ⟨rfl, rfl⟩
theorem mc_X3_lengthFor : MV m_X3_lengthFor 2 := ⟨⟨tb_491, tb_41, by decide +kernel⟩, tb_489, tb_490⟩
theorem n0_X3_lengthFor : N0 m_X3_lengthFor := ⟨rfl, rfl⟩
theorem mc_X3_lengthOfStrip : MV m_X3_lengthOfStrip 1 := ⟨⟨tb_428, tb_41, by decide +kernel⟩, tb_426, tb_427⟩
theorem n0_X3_lengthOfStrip : N0 m_X3_lengthOfStrip := ⟨rfl, rfl⟩
theorem mc_X3_letterAt : MS m_X3_letterAt 3 := ⟨⟨tb_331, tb_41, by decide +kernel⟩, tb_330⟩
theorem n0_X3_letterAt : N0 m_X3_letterAt := ⟨rfl, rfl⟩
theorem mc_X3_lightAt : MV m_X3_lightAt 1 := ⟨⟨tb_432, tb_41, by decide +kernel⟩, tb_430, tb_431⟩
theorem n0_X3_lightAt : N0 m_X3_lightAt := ⟨rfl, rfl⟩
theorem mc_X3_numberAt : MS m_X3_numberAt 4 := ⟨⟨tb_346, tb_41, by decide +kernel⟩, tb_345⟩
theorem n0_X3_numberAt : N0 m_X3_numberAt := ⟨rfl, rfl⟩
theorem mc_X3_numbersBehind : MS m_X3_numbersBehind 1 := ⟨⟨tb_334, tb_41, by decide +kernel⟩, tb_333⟩
theorem n0_X3_numbersBehind : N0 m_X3_numbersBehind := ⟨rfl, rfl⟩
theorem mc_X3_readNumbers : MV m_X3_readNumbers 3 := ⟨⟨tb_328, tb_41, by decide +kernel⟩, tb_327, tp_X3_readNumbers⟩
theorem n0_X3_readNumbers : N0 m_X3_readNumbers := ⟨rfl, rfl⟩
theorem mc_X3_readText : MV m_X3_readText 2 := ⟨⟨tb_324, tb_41, by decide +kernel⟩, tb_322, tb_323⟩
theorem n0_X3_readText : N0 m_X3_readText := ⟨rfl, rfl⟩
theorem mc_X3_slackeningIn : MV m_X3_slackeningIn 1 := ⟨⟨tb_565, tb_41, by decide +kernel⟩, tb_563, tb_564⟩
theorem n0_X3_slackeningIn : N0 m_X3_slackeningIn := ⟨rfl, rfl⟩
theorem mc_X3_takeDamp : MV m_X3_takeDamp 1 := ⟨⟨tb_362, tb_41, by decide +kernel⟩, tb_361, tp_X3_takeDamp⟩
theorem n0_X3_takeDamp : N0 m_X3_takeDamp := ⟨rfl, rfl⟩
theorem mc_X3_takeItem : MV m_X3_takeItem 1 := ⟨⟨tb_351, tb_41, by decide +kernel⟩, tb_350, tp_X3_takeItem⟩
theorem n0_X3_takeItem : N0 m_X3_takeItem := ⟨rfl, rfl⟩
theorem mc_X3_takeStrip : MV m_X3_takeStrip 3 := ⟨⟨tb_358, tb_41, by decide +kernel⟩, tb_357, tp_X3_takeStrip⟩
theorem n0_X3_takeStrip : N0 m_X3_takeStrip := ⟨rfl, rfl⟩
theorem mc_X3_treadAt : MV m_X3_treadAt 1 := ⟨⟨tb_436, tb_41, by decide +kernel⟩, tb_434, tb_435⟩
theorem n0_X3_treadAt : N0 m_X3_treadAt := ⟨rfl, rfl⟩
theorem mc_X4_clear : MV m_X4_clear 0 := ⟨⟨tb_419, tb_43, by decide +kernel⟩, tb_417, tb_418⟩
theorem n0_X4_clear : N0 m_X4_clear := ⟨rfl, rfl⟩
theorem mc_X4_init : MI m_X4_init 1 := ⟨⟨tb_176, tb_43, by decide +kernel⟩, tb_175, rfl, rfl⟩
theorem mc_X4_initB : MI m_X4_initB 1 := ⟨⟨tb_176, tb_43, by decide +kernel⟩, tb_175, rfl, rfl⟩
theorem mc_X4_isFull : MV m_X4_isFull 0 := ⟨⟨tb_744, tb_43, by decide +kernel⟩, tb_742, tb_743⟩
theorem n0_X4_isFull : N0 m_X4_isFull := ⟨rfl, rfl⟩
theorem mc_X4_pop : MV m_X4_pop 1 := ⟨⟨tb_574, tb_43, by decide +kernel⟩, tb_572, tb_573⟩
theorem n0_X4_pop : N0 m_X4_pop := ⟨rfl, rfl⟩
theorem mc_X4_push : MV m_X4_push 1 := ⟨⟨tb_496, tb_43, by decide +kernel⟩, tb_494, tb_495⟩
theorem n0_X4_push : N0 m_X4_push := ⟨rfl, rfl⟩
theorem mc_X4_rowAt : MV m_X4_rowAt 1 := ⟨⟨tb_500, tb_43, by decide +kernel⟩, tb_499, tp_X4_rowAt⟩
theorem n0_X4_rowAt : N0 m_X4_rowAt := ⟨rfl, rfl⟩
theorem mc_X5_add : MV m_X5_add 2 := ⟨⟨tb_657, tb_45, by decide +kernel⟩, tb_655, tb_656⟩
theorem n0_X5_add : N0 m_X5_add := ⟨rfl, rfl⟩
theorem mc_X5_clear : MV m_X5_clear 0 := ⟨⟨tb_204, tb_45, by decide +kernel⟩, tb_202, tb_203⟩
theorem n0_X5_clear : N0 m_X5_clear := ⟨rfl, rfl⟩
theorem mc_X5_explainedBy : MV m_X5_explainedBy 2 := ⟨⟨tb_674, tb_45, by decide +kernel⟩, tb_673, tp_X5_explainedBy⟩
theorem n0_X5_explainedBy : N0 m_X5_explainedBy := ⟨rfl, rfl⟩
theorem mc_X5_givesFor : MV m_X5_givesFor 1 := ⟨⟨tb_681, tb_45, by decide +kernel⟩, tb_679, tb_680⟩
theorem n0_X5_givesFor : N0 m_X5_givesFor := ⟨rfl, rfl⟩
theorem mc_X5_init : MI m_X5_init 0 := ⟨⟨tb_199, tb_45, by decide +kernel⟩, tb_198, rfl, rfl⟩
theorem mc_X5_kindsFor : MV m_X5_kindsFor 1 := ⟨⟨tb_670, tb_45, by decide +kernel⟩, tb_668, tb_669⟩
theorem n0_X5_kindsFor : N0 m_X5_kindsFor := ⟨rfl, rfl⟩
theorem mc_X6_at : MS m_X6_at 2 := ⟨⟨tb_354, tb_40, by decide +kernel⟩, tb_353⟩
theorem n0_X6_at : N0 m_X6_at := ⟨rfl, rfl⟩
theorem mc_X6_back : MV m_X6_back 0 := ⟨⟨tb_748, tb_40, by decide +kernel⟩, tb_746, tb_747⟩
theorem n0_X6_back : N0 m_X6_back := ⟨rfl, rfl⟩
theorem mc_X6_commonDivisor : MS m_X6_commonDivisor 2 := ⟨⟨tb_711, tb_40, by decide +kernel⟩, tb_710⟩
theorem n0_X6_commonDivisor : N0 m_X6_commonDivisor := ⟨rfl, rfl⟩
theorem mc_X6_copy : MS m_X6_copy 2 := ⟨⟨tb_507, tb_40, by decide +kernel⟩, tb_506⟩
theorem n0_X6_copy : N0 m_X6_copy := ⟨rfl, rfl⟩
theorem mc_X6_count : MV m_X6_count 1 := ⟨⟨tb_752, tb_40, by decide +kernel⟩, tb_750, tb_751⟩
theorem n0_X6_count : N0 m_X6_count := ⟨rfl, rfl⟩
theorem mc_X6_cut : MV m_X6_cut 1 := ⟨⟨tb_483, tb_40, by decide +kernel⟩, tb_481, tb_482⟩
theorem n0_X6_cut : N0 m_X6_cut := ⟨rfl, rfl⟩
theorem mc_X6_damp : MV m_X6_damp 1 := ⟨⟨tb_475, tb_40, by decide +kernel⟩, tb_473, tb_474⟩
theorem n0_X6_damp : N0 m_X6_damp := ⟨rfl, rfl⟩
theorem mc_X6_draw : MS m_X6_draw 2 := ⟨⟨tb_719, tb_40, by decide +kernel⟩, tb_718⟩
theorem n0_X6_draw : N0 m_X6_draw := ⟨rfl, rfl⟩
theorem mc_X6_fault : MV m_X6_fault 0 := ⟨⟨tb_411, tb_40, by decide +kernel⟩, tb_409, tb_410⟩
theorem n0_X6_fault : N0 m_X6_fault := ⟨rfl, rfl⟩
theorem mc_X6_forget : MV m_X6_forget 0 := ⟨⟨tb_662, tb_40, by decide +kernel⟩, tb_660, tb_661⟩
theorem n0_X6_forget : N0 m_X6_forget := ⟨rfl, rfl⟩
theorem mc_X6_hall : MV m_X6_hall 2 := ⟨⟨tb_685, tb_40, by decide +kernel⟩, tb_683, tb_684⟩
theorem n0_X6_hall : N0 m_X6_hall := ⟨rfl, rfl⟩
theorem mc_X6_hook : MV m_X6_hook 2 := ⟨⟨tb_518, tb_40, by decide +kernel⟩, tb_516, tb_517⟩
theorem n0_X6_hook : N0 m_X6_hook := ⟨rfl, rfl⟩
theorem mc_X6_init : MI m_X6_init 0 := ⟨⟨tb_58, tb_40, by decide +kernel⟩, tb_57, rfl, rfl⟩
theorem mc_X6_isWall : MS m_X6_isWall 1 := ⟨⟨tb_453, tb_40, by decide +kernel⟩, tb_452⟩
theorem n0_X6_isWall : N0 m_X6_isWall := ⟨rfl, rfl⟩
theorem mc_X6_keep : MV m_X6_keep 0 := ⟨⟨tb_740, tb_40, by decide +kernel⟩, tb_738, tb_739⟩
theorem n0_X6_keep : N0 m_X6_keep := ⟨rfl, rfl⟩
theorem mc_X6_kickFor : MV m_X6_kickFor 2 := ⟨⟨tb_635, tb_40, by decide +kernel⟩, tb_633, tb_634⟩
theorem n0_X6_kickFor : N0 m_X6_kickFor := ⟨rfl, rfl⟩
theorem mc_X6_lay : MV m_X6_lay 0 := ⟨⟨tb_415, tb_40, by decide +kernel⟩, tb_413, tb_414⟩
theorem n0_X6_lay : N0 m_X6_lay := ⟨rfl, rfl⟩
theorem mc_X6_left : MV m_X6_left 1 := ⟨⟨tb_693, tb_40, by decide +kernel⟩, tb_691, tb_692⟩
theorem n0_X6_left : N0 m_X6_left := ⟨rfl, rfl⟩
theorem mc_X6_letGo : MV m_X6_letGo 1 := ⟨⟨tb_549, tb_40, by decide +kernel⟩, tb_547, tb_548⟩
theorem n0_X6_letGo : N0 m_X6_letGo := ⟨rfl, rfl⟩
theorem mc_X6_likely : MV m_X6_likely 4 := ⟨⟨tb_701, tb_40, by decide +kernel⟩, tb_699, tb_700⟩
theorem n0_X6_likely : N0 m_X6_likely := ⟨rfl, rfl⟩
theorem mc_X6_longest : MV m_X6_longest 0 := ⟨⟨tb_649, tb_40, by decide +kernel⟩, tb_647, tb_648⟩
theorem n0_X6_longest : N0 m_X6_longest := ⟨rfl, rfl⟩
theorem mc_X6_may : MV m_X6_may 1 := ⟨⟨tb_666, tb_40, by decide +kernel⟩, tb_664, tb_665⟩
theorem n0_X6_may : N0 m_X6_may := ⟨rfl, rfl⟩
theorem mc_X6_order : MV m_X6_order 1 := ⟨⟨tb_604, tb_40, by decide +kernel⟩, tb_602, tb_603⟩
theorem n0_X6_order : N0 m_X6_order := ⟨rfl, rfl⟩
theorem mc_X6_pass : MV m_X6_pass 1 := ⟨⟨tb_557, tb_40, by decide +kernel⟩, tb_555, tb_556⟩
theorem n0_X6_pass : N0 m_X6_pass := ⟨rfl, rfl⟩
theorem mc_X6_plan : MV m_X6_plan 1 := ⟨⟨tb_578, tb_40, by decide +kernel⟩, tb_576, tb_577⟩
theorem n0_X6_plan : N0 m_X6_plan := ⟨rfl, rfl⟩
theorem mc_X6_power : MS m_X6_power 2 := ⟨⟨tb_708, tb_40, by decide +kernel⟩, tb_707⟩
theorem n0_X6_power : N0 m_X6_power := ⟨rfl, rfl⟩
theorem mc_X6_put : MS m_X6_put 3 := ⟨⟨tb_138, tb_40, by decide +kernel⟩, tb_137⟩
theorem n0_X6_put : N0 m_X6_put := ⟨rfl, rfl⟩
theorem mc_X6_seen : MV m_X6_seen 2 := ⟨⟨tb_653, tb_40, by decide +kernel⟩, tb_651, tb_652⟩
theorem n0_X6_seen : N0 m_X6_seen := ⟨rfl, rfl⟩
theorem mc_X6_slackOf : MS m_X6_slackOf 3 := ⟨⟨tb_544, tb_40, by decide +kernel⟩, tb_543⟩
theorem n0_X6_slackOf : N0 m_X6_slackOf := ⟨rfl, rfl⟩
theorem mc_X6_strip : MV m_X6_strip 2 := ⟨⟨tb_424, tb_40, by decide +kernel⟩, tb_422, tb_423⟩
theorem n0_X6_strip : N0 m_X6_strip := ⟨rfl, rfl⟩
theorem mc_X6_undo : MV m_X6_undo 0 := ⟨⟨tb_570, tb_40, by decide +kernel⟩, tb_568, tb_569⟩
theorem n0_X6_undo : N0 m_X6_undo := ⟨rfl, rfl⟩
theorem mc_X6_wall : MV m_X6_wall 2 := ⟨⟨tb_450, tb_40, by decide +kernel⟩, tb_448, tb_449⟩
theorem n0_X6_wall : N0 m_X6_wall := ⟨rfl, rfl⟩
theorem mc_X6_waves : MV m_X6_waves 0 := ⟨⟨tb_640, tb_40, by decide +kernel⟩, tb_638, tb_639⟩
theorem n0_X6_waves : N0 m_X6_waves := ⟨rfl, rfl⟩
theorem mc_X6_waysToWave : MS m_X6_waysToWave 3 := ⟨⟨tb_704, tb_40, by decide +kernel⟩, tb_703⟩
theorem n0_X6_waysToWave : N0 m_X6_waysToWave := ⟨rfl, rfl⟩
theorem mc_X6_wipe : MV m_X6_wipe 0 := ⟨⟨tb_407, tb_40, by decide +kernel⟩, tb_405, tb_406⟩
theorem n0_X6_wipe : N0 m_X6_wipe := ⟨rfl, rfl⟩
theorem mc_X6_within : MS m_X6_within 3 := ⟨⟨tb_343, tb_40, by decide +kernel⟩, tb_342⟩
theorem n0_X6_within : N0 m_X6_within := ⟨rfl, rfl⟩
theorem mc_X6_write : MV m_X6_write 1 := ⟨⟨tb_402, tb_40, by decide +kernel⟩, tb_400, tb_401⟩
theorem n0_X6_write : N0 m_X6_write := ⟨rfl, rfl⟩
theorem mc_X6_year : MV m_X6_year 3 := ⟨⟨tb_715, tb_40, by decide +kernel⟩, tb_713, tb_714⟩
theorem n0_X6_year : N0 m_X6_year := ⟨rfl, rfl⟩
theorem mc_X7_addStrip : MV m_X7_addStrip 4 := ⟨⟨tb_762, tb_52, by decide +kernel⟩, tb_761, tp_X7_addStrip⟩
theorem n0_X7_addStrip : N0 m_X7_addStrip := ⟨rfl, rfl⟩
theorem mc_X7_back : MV m_X7_back 0 := ⟨⟨tb_1084, tb_52, by decide +kernel⟩, tb_1082, tb_1083⟩
theorem n0_X7_back : N0 m_X7_back := ⟨rfl, rfl⟩
theorem mc_X7_begin : MV m_X7_begin 0 := ⟨⟨tb_1020, tb_52, by decide +kernel⟩, tb_1019, tp_X7_begin⟩
theorem n0_X7_begin : N0 m_X7_begin := ⟨rfl, rfl⟩
theorem mc_X7_bits : MS m_X7_bits 1 := ⟨⟨tb_962, tb_52, by decide +kernel⟩, tb_961⟩
theorem n0_X7_bits : N0 m_X7_bits := ⟨rfl, rfl⟩
theorem mc_X7_bring : MS m_X7_bring 5 := ⟨⟨tb_895, tb_52, by decide +kernel⟩, tb_894⟩
theorem n0_X7_bring : N0 m_X7_bring := ⟨rfl, rfl⟩
theorem mc_X7_count : MV m_X7_count 1 := ⟨⟨tb_1088, tb_52, by decide +kernel⟩, tb_1086, tb_1087⟩
theorem n0_X7_count : N0 m_X7_count := ⟨rfl, rfl⟩
theorem mc_X7_coveredIn : MS m_X7_coveredIn 1 := ⟨⟨tb_928, tb_52, by decide +kernel⟩, tb_927⟩
theorem n0_X7_coveredIn : N0 m_X7_coveredIn := ⟨rfl, rfl⟩
theorem mc_X7_covers : MV m_X7_covers 2 := ⟨⟨tb_996, tb_52, by decide +kernel⟩, tb_995, tp_X7_covers⟩
theorem n0_X7_covers : N0 m_X7_covers := ⟨rfl, rfl⟩
theorem mc_X7_cut : MV m_X7_cut 1 := ⟨⟨tb_925, tb_52, by decide +kernel⟩, tb_923, tb_924⟩
theorem n0_X7_cut : N0 m_X7_cut := ⟨rfl, rfl⟩
theorem mc_X7_damp : MV m_X7_damp 1 := ⟨⟨tb_917, tb_52, by decide +kernel⟩, tb_915, tb_916⟩
theorem n0_X7_damp : N0 m_X7_damp := ⟨rfl, rfl⟩
theorem mc_X7_dampBy : MV m_X7_dampBy 1 := ⟨⟨tb_921, tb_52, by decide +kernel⟩, tb_920, tp_X7_dampBy⟩
theorem n0_X7_dampBy : N0 m_X7_dampBy := ⟨rfl, rfl⟩
theorem mc_X7_fault : MV m_X7_fault 0 := ⟨⟨tb_859, tb_52, by decide +kernel⟩, tb_857, tb_858⟩
theorem n0_X7_fault : N0 m_X7_fault := ⟨rfl, rfl⟩
theorem mc_X7_forget : MV m_X7_forget 0 := ⟨⟨tb_1048, tb_52, by decide +kernel⟩, tb_1046, tb_1047⟩
theorem n0_X7_forget : N0 m_X7_forget := ⟨rfl, rfl⟩
theorem mc_X7_givesBy : MS m_X7_givesBy 3 := ⟨⟨tb_965, tb_52, by decide +kernel⟩, tb_964⟩
theorem n0_X7_givesBy : N0 m_X7_givesBy := ⟨rfl, rfl⟩
theorem mc_X7_hall : MV m_X7_hall 2 := ⟨⟨tb_1060, tb_52, by decide +kernel⟩, tb_1058, tb_1059⟩
theorem n0_X7_hall : N0 m_X7_hall := ⟨rfl, rfl⟩
theorem mc_X7_has : MS m_X7_has 2 := ⟨⟨tb_913, tb_52, by decide +kernel⟩, tb_912⟩
theorem n0_X7_has : N0 m_X7_has := ⟨rfl, rfl⟩
theorem mc_X7_hook : MV m_X7_hook 2 := ⟨⟨tb_944, tb_52, by decide +kernel⟩, tb_942, tb_943⟩
theorem n0_X7_hook : N0 m_X7_hook := ⟨rfl, rfl⟩
theorem mc_X7_in : MS m_X7_in 3 := ⟨⟨tb_851, tb_52, by decide +kernel⟩, tb_850⟩
theorem n0_X7_in : N0 m_X7_in := ⟨rfl, rfl⟩
theorem mc_X7_init : MI m_X7_init 0 := ⟨⟨tb_757, tb_52, by decide +kernel⟩, tb_756, rfl, rfl⟩
theorem mc_X7_isBefore : MV m_X7_isBefore 1 := ⟨⟨tb_1004, tb_52, by decide +kernel⟩, tb_1003, tp_X7_isBefore⟩
theorem n0_X7_isBefore : N0 m_X7_isBefore := ⟨rfl, rfl⟩
theorem mc_X7_isCovered : MV m_X7_isCovered 0 := ⟨⟨tb_948, tb_52, by decide +kernel⟩, tb_947, tp_X7_isCovered⟩
theorem n0_X7_isCovered : N0 m_X7_isCovered := ⟨rfl, rfl⟩
theorem mc_X7_isDampItem : MV m_X7_isDampItem 0 := ⟨⟨tb_887, tb_52, by decide +kernel⟩, tb_886, tp_X7_isDampItem⟩
theorem n0_X7_isDampItem : N0 m_X7_isDampItem := ⟨rfl, rfl⟩
theorem mc_X7_isFree : MS m_X7_isFree 2 := ⟨⟨tb_951, tb_52, by decide +kernel⟩, tb_950⟩
theorem n0_X7_isFree : N0 m_X7_isFree := ⟨rfl, rfl⟩
theorem mc_X7_isHooked : MS m_X7_isHooked 2 := ⟨⟨tb_910, tb_52, by decide +kernel⟩, tb_909⟩
theorem n0_X7_isHooked : N0 m_X7_isHooked := ⟨rfl, rfl⟩
theorem mc_X7_isItem : MV m_X7_isItem 0 := ⟨⟨tb_863, tb_52, by decide +kernel⟩, tb_862, tp_X7_isItem⟩
theorem n0_X7_isItem : N0 m_X7_isItem := ⟨rfl, rfl⟩
theorem mc_X7_isNumber : MV m_X7_isNumber 3 := ⟨⟨tb_875, tb_52, by decide +kernel⟩, tb_874, tp_X7_isNumber⟩
theorem n0_X7_isNumber : N0 m_X7_isNumber := ⟨rfl, rfl⟩
theorem mc_X7_isOne : MV m_X7_isOne 3 := ⟨⟨tb_883, tb_52, by decide +kernel⟩, tb_882, tp_X7_isOne⟩
theorem n0_X7_isOne : N0 m_X7_isOne := ⟨rfl, rfl⟩
theorem mc_X7_isPair : MV m_X7_isPair 5 := ⟨⟨tb_879, tb_52, by decide +kernel⟩, tb_878, tp_X7_isPair⟩
theorem n0_X7_isPair : N0 m_X7_isPair := ⟨rfl, rfl⟩
theorem mc_X7_isSo : MV m_X7_isSo 2 := ⟨⟨tb_1056, tb_52, by decide +kernel⟩, tb_1055, tp_X7_isSo⟩
theorem n0_X7_isSo : N0 m_X7_isSo := ⟨rfl, rfl⟩
theorem mc_X7_isStripItem : MV m_X7_isStripItem 0 := ⟨⟨tb_871, tb_52, by decide +kernel⟩, tb_870, tp_X7_isStripItem⟩
theorem n0_X7_isStripItem : N0 m_X7_isStripItem := ⟨rfl, rfl⟩
theorem mc_X7_keep : MV m_X7_keep 0 := ⟨⟨tb_1080, tb_52, by decide +kernel⟩, tb_1078, tb_1079⟩
theorem n0_X7_keep : N0 m_X7_keep := ⟨rfl, rfl⟩
theorem mc_X7_kick : MV m_X7_kick 3 := ⟨⟨tb_955, tb_52, by decide +kernel⟩, tb_954, tp_X7_kick⟩
theorem n0_X7_kick : N0 m_X7_kick := ⟨rfl, rfl⟩
theorem mc_X7_kickFor : MV m_X7_kickFor 2 := ⟨⟨tb_1028, tb_52, by decide +kernel⟩, tb_1026, tb_1027⟩
theorem n0_X7_kickFor : N0 m_X7_kickFor := ⟨rfl, rfl⟩
theorem mc_X7_kicks : MV m_X7_kicks 1 := ⟨⟨tb_1016, tb_52, by decide +kernel⟩, tb_1015, tp_X7_kicks⟩
theorem n0_X7_kicks : N0 m_X7_kicks := ⟨rfl, rfl⟩
theorem mc_X7_lay : MV m_X7_lay 0 := ⟨⟨tb_891, tb_52, by decide +kernel⟩, tb_889, tb_890⟩
theorem n0_X7_lay : N0 m_X7_lay := ⟨rfl, rfl⟩
theorem mc_X7_layOrder : MV m_X7_layOrder 0 := ⟨⟨tb_1012, tb_52, by decide +kernel⟩, tb_1011, tp_X7_layOrder⟩
theorem n0_X7_layOrder : N0 m_X7_layOrder := ⟨rfl, rfl⟩
theorem mc_X7_layPlan : MV m_X7_layPlan 0 := ⟨⟨tb_992, tb_52, by decide +kernel⟩, tb_991, tp_X7_layPlan⟩
theorem n0_X7_layPlan : N0 m_X7_layPlan := ⟨rfl, rfl⟩
theorem mc_X7_leastKick : MV m_X7_leastKick 3 := ⟨⟨tb_1024, tb_52, by decide +kernel⟩, tb_1023, tp_X7_leastKick⟩
theorem n0_X7_leastKick : N0 m_X7_leastKick := ⟨rfl, rfl⟩
theorem mc_X7_left : MV m_X7_left 1 := ⟨⟨tb_1064, tb_52, by decide +kernel⟩, tb_1062, tb_1063⟩
theorem n0_X7_left : N0 m_X7_left := ⟨rfl, rfl⟩
theorem mc_X7_lengthOf : MV m_X7_lengthOf 1 := ⟨⟨tb_903, tb_52, by decide +kernel⟩, tb_902, tp_X7_lengthOf⟩
theorem n0_X7_lengthOf : N0 m_X7_lengthOf := ⟨rfl, rfl⟩
theorem mc_X7_letGo : MV m_X7_letGo 1 := ⟨⟨tb_969, tb_52, by decide +kernel⟩, tb_967, tb_968⟩
theorem n0_X7_letGo : N0 m_X7_letGo := ⟨rfl, rfl⟩
theorem mc_X7_letterAt : MV m_X7_letterAt 1 := ⟨⟨tb_867, tb_52, by decide +kernel⟩, tb_866, tp_X7_letterAt⟩
theorem n0_X7_letterAt : N0 m_X7_letterAt := ⟨rfl, rfl⟩
theorem mc_X7_likely : MV m_X7_likely 4 := ⟨⟨tb_1068, tb_52, by decide +kernel⟩, tb_1066, tb_1067⟩
theorem n0_X7_likely : N0 m_X7_likely := ⟨rfl, rfl⟩
theorem mc_X7_longFor : MV m_X7_longFor 2 := ⟨⟨tb_932, tb_52, by decide +kernel⟩, tb_931, tp_X7_longFor⟩
theorem n0_X7_longFor : N0 m_X7_longFor := ⟨rfl, rfl⟩
theorem mc_X7_longest : MV m_X7_longest 0 := ⟨⟨tb_1040, tb_52, by decide +kernel⟩, tb_1038, tb_1039⟩
theorem n0_X7_longest : N0 m_X7_longest := ⟨rfl, rfl⟩
theorem mc_X7_loosen : MS m_X7_loosen 2 := ⟨⟨tb_972, tb_52, by decide +kernel⟩, tb_971⟩
theorem n0_X7_loosen : N0 m_X7_loosen := ⟨rfl, rfl⟩
theorem mc_X7_may : MV m_X7_may 1 := ⟨⟨tb_1052, tb_52, by decide +kernel⟩, tb_1050, tb_1051⟩
theorem n0_X7_may : N0 m_X7_may := ⟨rfl, rfl⟩
theorem mc_X7_note : MV m_X7_note 0 := ⟨⟨tb_940, tb_52, by decide +kernel⟩, tb_939, tp_X7_note⟩
theorem n0_X7_note : N0 m_X7_note := ⟨rfl, rfl⟩
theorem mc_X7_order : MV m_X7_order 1 := ⟨⟨tb_1008, tb_52, by decide +kernel⟩, tb_1006, tb_1007⟩
theorem n0_X7_order : N0 m_X7_order := ⟨rfl, rfl⟩
theorem mc_X7_pass : MV m_X7_pass 1 := ⟨⟨tb_976, tb_52, by decide +kernel⟩, tb_974, tb_975⟩
theorem n0_X7_pass : N0 m_X7_pass := ⟨rfl, rfl⟩
theorem mc_X7_passMonth : MV m_X7_passMonth 1 := ⟨⟨tb_980, tb_52, by decide +kernel⟩, tb_979, tp_X7_passMonth⟩
theorem n0_X7_passMonth : N0 m_X7_passMonth := ⟨rfl, rfl⟩
theorem mc_X7_plan : MV m_X7_plan 1 := ⟨⟨tb_988, tb_52, by decide +kernel⟩, tb_986, tb_987⟩
theorem n0_X7_plan : N0 m_X7_plan := ⟨rfl, rfl⟩
theorem mc_X7_rollIn : MV m_X7_rollIn 1 := ⟨⟨tb_936, tb_52, by decide +kernel⟩, tb_935, tp_X7_rollIn⟩
theorem n0_X7_rollIn : N0 m_X7_rollIn := ⟨rfl, rfl⟩
theorem mc_X7_seamAt : MV m_X7_seamAt 1 := ⟨⟨tb_1000, tb_52, by decide +kernel⟩, tb_999, tp_X7_seamAt⟩
theorem n0_X7_seamAt : N0 m_X7_seamAt := ⟨rfl, rfl⟩
theorem mc_X7_seen : MV m_X7_seen 2 := ⟨⟨tb_1044, tb_52, by decide +kernel⟩, tb_1042, tb_1043⟩
theorem n0_X7_seen : N0 m_X7_seen := ⟨rfl, rfl⟩
theorem mc_X7_strip : MV m_X7_strip 2 := ⟨⟨tb_899, tb_52, by decide +kernel⟩, tb_897, tb_898⟩
theorem n0_X7_strip : N0 m_X7_strip := ⟨rfl, rfl⟩
theorem mc_X7_tightBy : MV m_X7_tightBy 3 := ⟨⟨tb_959, tb_52, by decide +kernel⟩, tb_958, tp_X7_tightBy⟩
theorem n0_X7_tightBy : N0 m_X7_tightBy := ⟨rfl, rfl⟩
theorem mc_X7_undo : MV m_X7_undo 0 := ⟨⟨tb_984, tb_52, by decide +kernel⟩, tb_982, tb_983⟩
theorem n0_X7_undo : N0 m_X7_undo := ⟨rfl, rfl⟩
theorem mc_X7_wall : MV m_X7_wall 2 := ⟨⟨tb_907, tb_52, by decide +kernel⟩, tb_905, tb_906⟩
theorem n0_X7_wall : N0 m_X7_wall := ⟨rfl, rfl⟩
theorem mc_X7_waves : MV m_X7_waves 0 := ⟨⟨tb_1032, tb_52, by decide +kernel⟩, tb_1030, tb_1031⟩
theorem n0_X7_waves : N0 m_X7_waves := ⟨rfl, rfl⟩
theorem mc_X7_wavesAt : MV m_X7_wavesAt 1 := ⟨⟨tb_1036, tb_52, by decide +kernel⟩, tb_1035, tp_X7_wavesAt⟩
theorem n0_X7_wavesAt : N0 m_X7_wavesAt := ⟨rfl, rfl⟩
theorem mc_X7_wipe : MV m_X7_wipe 0 := ⟨⟨tb_855, tb_52, by decide +kernel⟩, tb_853, tb_854⟩
theorem n0_X7_wipe : N0 m_X7_wipe := ⟨rfl, rfl⟩
theorem mc_X7_write : MV m_X7_write 1 := ⟨⟨tb_848, tb_52, by decide +kernel⟩, tb_846, tb_847⟩
theorem n0_X7_write : N0 m_X7_write := ⟨rfl, rfl⟩
theorem mc_X7_year : MV m_X7_year 3 := ⟨⟨tb_1072, tb_52, by decide +kernel⟩, tb_1070, tb_1071⟩
theorem n0_X7_year : N0 m_X7_year := ⟨rfl, rfl⟩
theorem ml_RX6_15 : ML RX6 15 m_X3_init := Or.inl tb_64
theorem ml_RX6_25 : ML RX6 25 m_X0_init := Or.inl tb_128
theorem ml_RX6_35 : ML RX6 35 m_X4_init := Or.inl tb_174
theorem ml_RX6_35B : ML RX6 35 m_X4_initB := Or.inl tb_174
theorem ml_RX6_47 : ML RX6 47 m_X5_init := Or.inl tb_197
theorem ml_RX6_54 : ML RX6 54 m_X1_init := Or.inl tb_218
theorem ml_RX6_61 : ML RX6 61 m_X2_init := Or.inl tb_252
theorem ml_RX6_78 : ML RX6 78 m_X3_readText := Or.inl tb_321
theorem ml_RX6_86 : ML RX6 86 m_X0_clear := Or.inl tb_363
theorem ml_RX6_89 : ML RX6 89 m_X6_within := Or.inl tb_403
theorem ml_RX6_99 : ML RX6 99 m_X4_clear := Or.inl tb_416
theorem ml_RX6_101 : ML RX6 101 m_X5_clear := Or.inl tb_420
theorem ml_RX6_102 : ML RX6 102 m_X3_lengthOfStrip := Or.inl tb_425
theorem ml_RX6_106 : ML RX6 106 m_X3_lightAt := Or.inl tb_429
theorem ml_RX6_109 : ML RX6 109 m_X3_treadAt := Or.inl tb_433
theorem ml_RX6_112 : ML RX6 112 m_X0_lengthOver := Or.inl tb_437
theorem ml_RX6_115 : ML RX6 115 m_X0_isSeamAt := Or.inl tb_442
theorem ml_RX6_119 : ML RX6 119 m_X6_isWall := Or.inl tb_451
theorem ml_RX6_122 : ML RX6 122 m_X0_tightness := Or.inl tb_454
theorem ml_RX6_125 : ML RX6 125 m_X0_isHooked := Or.inl tb_458
theorem ml_RX6_128 : ML RX6 128 m_X0_isTorn := Or.inl tb_462
theorem ml_RX6_131 : ML RX6 131 m_X0_isWaving := Or.inl tb_466
theorem ml_RX6_134 : ML RX6 134 m_X3_dampOf := Or.inl tb_476
theorem ml_RX6_137 : ML RX6 137 m_X0_canCut := Or.inl tb_484
theorem ml_RX6_141 : ML RX6 141 m_X4_push := Or.inl tb_493
theorem ml_RX6_145 : ML RX6 145 m_X0_cutFor := Or.inl tb_511
theorem ml_RX6_149 : ML RX6 149 m_X0_isCovered := Or.inl tb_519
theorem ml_RX6_153 : ML RX6 153 m_X0_isFree := Or.inl tb_523
theorem ml_RX6_156 : ML RX6 156 m_X0_hookOn := Or.inl tb_528
theorem ml_RX6_160 : ML RX6 160 m_X0_unhook := Or.inl tb_550
theorem ml_RX6_166 : ML RX6 166 m_X0_passMonth := Or.inl tb_558
theorem ml_RX6_170 : ML RX6 170 m_X4_pop := Or.inl tb_571
theorem ml_RX6_177 : ML RX6 177 m_X1_make := Or.inl tb_579
theorem ml_RX6_191 : ML RX6 191 m_X1_breadthOf := Or.inl tb_597
theorem ml_RX6_194 : ML RX6 194 m_X2_make := Or.inl tb_605
theorem ml_RX6_200 : ML RX6 200 m_X2_wallAt := Or.inl tb_628
theorem ml_RX6_203 : ML RX6 203 m_X0_leastKick := Or.inl tb_636
theorem ml_RX6_206 : ML RX6 206 m_X0_monthsToWave := Or.inl tb_641
theorem ml_RX6_209 : ML RX6 209 m_J9_min_7cf53 := Or.inl tb_645
theorem ml_RX6_215 : ML RX6 215 m_X5_add := Or.inl tb_654
theorem ml_RX6_223 : ML RX6 223 m_X5_kindsFor := Or.inl tb_667
theorem ml_RX6_229 : ML RX6 229 m_X5_givesFor := Or.inl tb_678
theorem ml_RX6_232 : ML RX6 232 m_X0_hasRestFor := Or.inl tb_686
theorem ml_RX6_242 : ML RX6 242 m_X0_areaOfRests := Or.inl tb_694
theorem ml_RX6_246 : ML RX6 246 m_X6_waysToWave := Or.inl tb_702
theorem ml_RX6_250 : ML RX6 250 m_X6_power := Or.inl tb_706
theorem ml_RX6_253 : ML RX6 253 m_X6_commonDivisor := Or.inl tb_709
theorem ml_RX6_256 : ML RX6 256 m_X0_copyFrom := Or.inl tb_716
theorem ml_RX6_259 : ML RX6 259 m_X6_draw := Or.inl tb_717
theorem ml_RX6_262 : ML RX6 262 m_X0_takeStep := Or.inl tb_724
theorem ml_RX6_269 : ML RX6 269 m_J6_bitCount_0f7a4 := Or.inl tb_732
theorem ml_RX6_274 : ML RX6 274 m_X0_tightnessInAll := Or.inl tb_733
theorem ml_RX6_277 : ML RX6 277 m_X4_isFull := Or.inl tb_741
theorem ml_RX6_284 : ML RX6 284 m_J9_max_7cf53 := Or.inl tb_705
theorem ml_RX0_18 : ML RX0 18 m_X0_clear := Or.inl tb_132
theorem ml_RX0_22 : ML RX0 22 m_X6_put := Or.inr ⟨"StretchedCarpet", tb_136⟩
theorem ml_RX0_45 : ML RX0 45 m_X6_copy := Or.inr ⟨"StretchedCarpet", tb_505⟩
theorem ml_RX0_57 : ML RX0 57 m_X3_lengthFor := Or.inl tb_488
theorem ml_RX0_61 : ML RX0 61 m_X6_at := Or.inr ⟨"StretchedCarpet", tb_441⟩
theorem ml_RX0_65 : ML RX0 65 m_X0_lengthOver := Or.inl tb_446
theorem ml_RX0_69 : ML RX0 69 m_X0_isHooked := Or.inl tb_470
theorem ml_RX0_73 : ML RX0 73 m_X0_isTorn := Or.inl tb_527
theorem ml_RX0_76 : ML RX0 76 m_X0_tightness := Or.inl tb_471
theorem ml_RX0_85 : ML RX0 85 m_J6_bitCount_0f7a4 := Or.inl tb_536
theorem ml_RX0_90 : ML RX0 90 m_X6_slackOf := Or.inr ⟨"StretchedCarpet", tb_542⟩
theorem ml_RX0_94 : ML RX0 94 m_J9_max_7cf53 := Or.inl tb_545
theorem ml_RX0_99 : ML RX0 99 m_X0_tightnessBy := Or.inl tb_532
theorem ml_RX0_106 : ML RX0 106 m_X3_slackeningIn := Or.inl tb_562
theorem ml_RX0_109 : ML RX0 109 m_X0_unhook := Or.inl tb_728
theorem ml_RX0_112 : ML RX0 112 m_X0_isFree := Or.inl tb_729
theorem ml_RX0_115 : ML RX0 115 m_X0_hookOn := Or.inl tb_730
theorem ml_RX0_118 : ML RX0 118 m_X0_passMonth := Or.inl tb_731
theorem ml_RX1_42 : ML RX1 42 m_X6_put := Or.inr ⟨"StretchedCarpet", tb_583⟩
theorem ml_RX1_46 : ML RX1 46 m_X1_choose := Or.inl tb_584
theorem ml_RX1_50 : ML RX1 50 m_X6_at := Or.inr ⟨"StretchedCarpet", tb_592⟩
theorem ml_RX1_63 : ML RX1 63 m_X3_lightAt := Or.inl tb_588
theorem ml_RX1_67 : ML RX1 67 m_X3_treadAt := Or.inl tb_589
theorem ml_RX1_73 : ML RX1 73 m_J9_min_7cf53 := Or.inl tb_590
theorem ml_RX1_79 : ML RX1 79 m_X3_lengthFor := Or.inl tb_591
theorem ml_RX1_82 : ML RX1 82 m_X1_isLess := Or.inl tb_593
theorem ml_RX2_18 : ML RX2 18 m_X0_isFree := Or.inl tb_609
theorem ml_RX2_24 : ML RX2 24 m_X2_isOrder := Or.inl tb_610
theorem ml_RX2_28 : ML RX2 28 m_X2_kicksOf := Or.inl tb_618
theorem ml_RX2_35 : ML RX2 35 m_X2_wallIn := Or.inl tb_614
theorem ml_RX2_39 : ML RX2 39 m_X0_copyFrom := Or.inl tb_622
theorem ml_RX2_46 : ML RX2 46 m_X0_leastKick := Or.inl tb_623
theorem ml_RX2_50 : ML RX2 50 m_X0_hookOn := Or.inl tb_627
theorem ml_RX3_27 : ML RX3 27 m_X3_clear := Or.inl tb_68
theorem ml_RX3_55 : ML RX3 55 m_X3_readNumbers := Or.inl tb_325
theorem ml_RX3_59 : ML RX3 59 m_X3_letterAt := Or.inl tb_329
theorem ml_RX3_62 : ML RX3 62 m_X3_takeItem := Or.inl tb_348
theorem ml_RX3_66 : ML RX3 66 m_X3_numbersBehind := Or.inl tb_332
theorem ml_RX3_70 : ML RX3 70 m_X3_figuresAt := Or.inl tb_335
theorem ml_RX3_73 : ML RX3 73 m_X3_numberAt := Or.inl tb_344
theorem ml_RX3_77 : ML RX3 77 m_X6_put := Or.inr ⟨"StretchedCarpet", tb_347⟩
theorem ml_RX3_81 : ML RX3 81 m_X3_isFigure := Or.inl tb_338
theorem ml_RX3_84 : ML RX3 84 m_X6_within := Or.inr ⟨"StretchedCarpet", tb_341⟩
theorem ml_RX3_88 : ML RX3 88 m_X6_at := Or.inr ⟨"StretchedCarpet", tb_352⟩
theorem ml_RX3_92 : ML RX3 92 m_X3_takeStrip := Or.inl tb_355
theorem ml_RX3_95 : ML RX3 95 m_X3_takeDamp := Or.inl tb_359
theorem ml_RX3_98 : ML RX3 98 m_X3_dampOf := Or.inl tb_566
theorem ml_RX3_101 : ML RX3 101 m_J9_max_7cf53 := Or.inl tb_492
theorem ml_RX4_7 : ML RX4 7 m_J9_max_7cf53 := Or.inl tb_178
theorem ml_RX4_29 : ML RX4 29 m_X4_rowAt := Or.inl tb_497
theorem ml_RX4_33 : ML RX4 33 m_X0_copyFrom := Or.inl tb_501
theorem ml_RX4_37 : ML RX4 37 m_J9_min_7cf53 := Or.inl tb_508
theorem ml_RX5_18 : ML RX5 18 m_X5_clear := Or.inl tb_201
theorem ml_RX5_25 : ML RX5 25 m_X6_put := Or.inr ⟨"StretchedCarpet", tb_658⟩
theorem ml_RX5_29 : ML RX5 29 m_X5_explainedBy := Or.inl tb_671
theorem ml_RX5_33 : ML RX5 33 m_X6_slackOf := Or.inr ⟨"StretchedCarpet", tb_675⟩
theorem ml_RX5_37 : ML RX5 37 m_X6_at := Or.inr ⟨"StretchedCarpet", tb_676⟩
theorem ml_RX5_41 : ML RX5 41 m_J9_max_7cf53 := Or.inl tb_677
theorem ml_RL_9 : ML RL 9 m_X6_init := Or.inl tb_56
theorem ml_RL_12 : ML RL 12 m_X7_init := Or.inl tb_755
theorem ml_RL_13 : ML RL 13 m_X6_write := Or.inl tb_399
theorem ml_RL_17 : ML RL 17 m_X7_write := Or.inl tb_845
theorem ml_RL_18 : ML RL 18 m_X6_wipe := Or.inl tb_404
theorem ml_RL_22 : ML RL 22 m_X7_wipe := Or.inl tb_852
theorem ml_RL_23 : ML RL 23 m_X6_fault := Or.inl tb_408
theorem ml_RL_26 : ML RL 26 m_X7_fault := Or.inl tb_856
theorem ml_RL_27 : ML RL 27 m_X6_lay := Or.inl tb_412
theorem ml_RL_30 : ML RL 30 m_X7_lay := Or.inl tb_888
theorem ml_RL_31 : ML RL 31 m_X6_strip := Or.inl tb_421
theorem ml_RL_35 : ML RL 35 m_X7_strip := Or.inl tb_896
theorem ml_RL_36 : ML RL 36 m_X6_wall := Or.inl tb_447
theorem ml_RL_39 : ML RL 39 m_X7_wall := Or.inl tb_904
theorem ml_RL_40 : ML RL 40 m_X6_damp := Or.inl tb_472
theorem ml_RL_43 : ML RL 43 m_X7_damp := Or.inl tb_914
theorem ml_RL_44 : ML RL 44 m_X6_cut := Or.inl tb_480
theorem ml_RL_47 : ML RL 47 m_X7_cut := Or.inl tb_922
theorem ml_RL_48 : ML RL 48 m_X6_hook := Or.inl tb_515
theorem ml_RL_51 : ML RL 51 m_X7_hook := Or.inl tb_941
theorem ml_RL_52 : ML RL 52 m_X6_letGo := Or.inl tb_546
theorem ml_RL_55 : ML RL 55 m_X7_letGo := Or.inl tb_966
theorem ml_RL_56 : ML RL 56 m_X6_pass := Or.inl tb_554
theorem ml_RL_59 : ML RL 59 m_X7_pass := Or.inl tb_973
theorem ml_RL_60 : ML RL 60 m_X6_undo := Or.inl tb_567
theorem ml_RL_63 : ML RL 63 m_X7_undo := Or.inl tb_981
theorem ml_RL_64 : ML RL 64 m_X6_plan := Or.inl tb_575
theorem ml_RL_67 : ML RL 67 m_X7_plan := Or.inl tb_985
theorem ml_RL_68 : ML RL 68 m_X6_order := Or.inl tb_601
theorem ml_RL_71 : ML RL 71 m_X7_order := Or.inl tb_1005
theorem ml_RL_72 : ML RL 72 m_X6_kickFor := Or.inl tb_632
theorem ml_RL_75 : ML RL 75 m_X7_kickFor := Or.inl tb_1025
theorem ml_RL_76 : ML RL 76 m_X6_waves := Or.inl tb_637
theorem ml_RL_79 : ML RL 79 m_X7_waves := Or.inl tb_1029
theorem ml_RL_80 : ML RL 80 m_X6_longest := Or.inl tb_646
theorem ml_RL_83 : ML RL 83 m_X7_longest := Or.inl tb_1037
theorem ml_RL_84 : ML RL 84 m_X6_seen := Or.inl tb_650
theorem ml_RL_87 : ML RL 87 m_X7_seen := Or.inl tb_1041
theorem ml_RL_88 : ML RL 88 m_X6_forget := Or.inl tb_659
theorem ml_RL_91 : ML RL 91 m_X7_forget := Or.inl tb_1045
theorem ml_RL_92 : ML RL 92 m_X6_may := Or.inl tb_663
theorem ml_RL_95 : ML RL 95 m_X7_may := Or.inl tb_1049
theorem ml_RL_96 : ML RL 96 m_X6_hall := Or.inl tb_682
theorem ml_RL_99 : ML RL 99 m_X7_hall := Or.inl tb_1057
theorem ml_RL_100 : ML RL 100 m_X6_left := Or.inl tb_690
theorem ml_RL_103 : ML RL 103 m_X7_left := Or.inl tb_1061
theorem ml_RL_104 : ML RL 104 m_X6_likely := Or.inl tb_698
theorem ml_RL_108 : ML RL 108 m_X7_likely := Or.inl tb_1065
theorem ml_RL_109 : ML RL 109 m_X6_year := Or.inl tb_712
theorem ml_RL_113 : ML RL 113 m_X7_year := Or.inl tb_1069
theorem ml_RL_114 : ML RL 114 m_X6_keep := Or.inl tb_737
theorem ml_RL_117 : ML RL 117 m_X7_keep := Or.inl tb_1077
theorem ml_RL_118 : ML RL 118 m_X6_back := Or.inl tb_745
theorem ml_RL_121 : ML RL 121 m_X7_back := Or.inl tb_1081
theorem ml_RL_122 : ML RL 122 m_X6_count := Or.inl tb_749
theorem ml_RL_125 : ML RL 125 m_X7_count := Or.inl tb_1085
theorem ml_RX7_52 : ML RX7 52 m_X7_addStrip := Or.inl tb_759
theorem ml_RX7_63 : ML RX7 63 m_X7_in := Or.inl tb_849
theorem ml_RX7_76 : ML RX7 76 m_X7_letterAt := Or.inl tb_864
theorem ml_RX7_83 : ML RX7 83 m_X7_isNumber := Or.inl tb_872
theorem ml_RX7_89 : ML RX7 89 m_X7_isStripItem := Or.inl tb_868
theorem ml_RX7_93 : ML RX7 93 m_X7_isPair := Or.inl tb_876
theorem ml_RX7_97 : ML RX7 97 m_X7_isOne := Or.inl tb_880
theorem ml_RX7_100 : ML RX7 100 m_X7_isDampItem := Or.inl tb_884
theorem ml_RX7_103 : ML RX7 103 m_X7_isItem := Or.inl tb_860
theorem ml_RX7_106 : ML RX7 106 m_X7_fault := Or.inl tb_892
theorem ml_RX7_110 : ML RX7 110 m_X7_bring := Or.inl tb_893
theorem ml_RX7_123 : ML RX7 123 m_X7_lengthOf := Or.inl tb_900
theorem ml_RX7_126 : ML RX7 126 m_X7_has := Or.inl tb_911
theorem ml_RX7_130 : ML RX7 130 m_X7_isHooked := Or.inl tb_908
theorem ml_RX7_134 : ML RX7 134 m_X7_dampBy := Or.inl tb_918
theorem ml_RX7_137 : ML RX7 137 m_X7_coveredIn := Or.inl tb_926
theorem ml_RX7_141 : ML RX7 141 m_X7_longFor := Or.inl tb_929
theorem ml_RX7_145 : ML RX7 145 m_X7_rollIn := Or.inl tb_933
theorem ml_RX7_148 : ML RX7 148 m_X7_note := Or.inl tb_937
theorem ml_RX7_151 : ML RX7 151 m_X7_bits := Or.inl tb_960
theorem ml_RX7_154 : ML RX7 154 m_X7_givesBy := Or.inl tb_963
theorem ml_RX7_158 : ML RX7 158 m_X7_tightBy := Or.inl tb_956
theorem ml_RX7_162 : ML RX7 162 m_X7_isCovered := Or.inl tb_945
theorem ml_RX7_165 : ML RX7 165 m_X7_isFree := Or.inl tb_949
theorem ml_RX7_168 : ML RX7 168 m_X7_kick := Or.inl tb_952
theorem ml_RX7_172 : ML RX7 172 m_X7_loosen := Or.inl tb_970
theorem ml_RX7_176 : ML RX7 176 m_X7_passMonth := Or.inl tb_977
theorem ml_RX7_180 : ML RX7 180 m_X7_seamAt := Or.inl tb_997
theorem ml_RX7_189 : ML RX7 189 m_X7_isBefore := Or.inl tb_1001
theorem ml_RX7_196 : ML RX7 196 m_X7_covers := Or.inl tb_993
theorem ml_RX7_199 : ML RX7 199 m_X7_layPlan := Or.inl tb_989
theorem ml_RX7_202 : ML RX7 202 m_X7_kicks := Or.inl tb_1013
theorem ml_RX7_205 : ML RX7 205 m_X7_begin := Or.inl tb_1017
theorem ml_RX7_208 : ML RX7 208 m_X7_leastKick := Or.inl tb_1021
theorem ml_RX7_211 : ML RX7 211 m_X7_layOrder := Or.inl tb_1009
theorem ml_RX7_214 : ML RX7 214 m_X7_wavesAt := Or.inl tb_1033
theorem ml_RX7_217 : ML RX7 217 m_X7_isSo := Or.inl tb_1053
end
