section
/-- an int of the machine out of a whole number -/
def iI (z : Int) : Int32 := Int32.ofInt z
def lI (z : Int) : Int64 := Int64.ofInt z
/-- the words of the tables that every method has -/
def TB : List Cond := lw_tbl.filter goodWord
theorem tb_of {i : Nat} {c : Cond} (h : lw_tbl[i]? = some c) (hg : goodWord c = true) : c ∈ TB := List.mem_filter.mpr ⟨List.mem_of_getElem? h, hg⟩
/-- links to nest mates -/
def isNest : Cond → Bool
  | .fieldLinkNest .. => true
  | .methodLinkNest .. => true
  | _ => false
def NB : List Cond := lw_tbl.filter isNest
theorem nb_of {i : Nat} {c : Cond} (h : lw_tbl[i]? = some c) (hg : isNest c = true) : c ∈ NB := List.mem_filter.mpr ⟨List.mem_of_getElem? h, hg⟩
theorem tb_good : GoodIn TB TB := fun w hw => ⟨hw, good_of_word (List.mem_filter.mp hw).2⟩
def PN (U : State) : Prop := ∀ w ∈ NB, va_Nw w U
theorem PN.same {u U : State} (h : u.vm = U.vm) (k : PN u) : PN U := fun w hw => by
  have h1 := k w hw
  have h2 := (List.mem_filter.mp hw).2
  cases w <;> first | exact va_Nw.same rfl h h1 | exact absurd h2 Bool.false_ne_true
theorem PN.warm {s U : State} (h : s.WarmedH U.vm) (k : PN s) : PN U := fun w hw => by
  have h1 := k w hw
  have h2 := (List.mem_filter.mp hw).2
  cases w <;> first | exact va_Nw.warmF h h1 | exact va_Nw.warmM h h1 | exact absurd h2 Bool.false_ne_true
end
theorem tb_40 : Cond.initialized "StretchedCarpet" ∈ TB := tb_of (i := 40) (by decide +kernel) rfl
theorem tb_41 : Cond.initialized "StretchedCarpet$Room" ∈ TB := tb_of (i := 41) (by decide +kernel) rfl
theorem tb_42 : Cond.initialized "StretchedCarpet$Carpet" ∈ TB := tb_of (i := 42) (by decide +kernel) rfl
theorem tb_43 : Cond.initialized "StretchedCarpet$Shelf" ∈ TB := tb_of (i := 43) (by decide +kernel) rfl
theorem tb_44 : Cond.initialized "java/lang/Math" ∈ TB := tb_of (i := 44) (by decide +kernel) rfl
theorem tb_45 : Cond.initialized "StretchedCarpet$Sightings" ∈ TB := tb_of (i := 45) (by decide +kernel) rfl
theorem tb_46 : Cond.initialized "StretchedCarpet$CutPlan" ∈ TB := tb_of (i := 46) (by decide +kernel) rfl
theorem tb_47 : Cond.initialized "StretchedCarpet$HookOrder" ∈ TB := tb_of (i := 47) (by decide +kernel) rfl
theorem tb_52 : Cond.initialized "StretchedCarpetModel" ∈ TB := tb_of (i := 52) (by decide +kernel) rfl
theorem tb_53 : Cond.initialized "java/lang/Integer" ∈ TB := tb_of (i := 53) (by decide +kernel) rfl
theorem tb_54 : Cond.classLink "StretchedCarpetLaw" 7 "StretchedCarpet" ∈ TB := tb_of (i := 54) (by decide +kernel) rfl
theorem tb_55 : Cond.instantiable "StretchedCarpet" 11 ∈ TB := tb_of (i := 55) (by decide +kernel) rfl
theorem tb_56 : Cond.methodLink "StretchedCarpetLaw" 9 ⟨"StretchedCarpet", "<init>", "()V"⟩ ∈ TB := tb_of (i := 56) (by decide +kernel) rfl
theorem tb_57 : Cond.instanceMethod ⟨"StretchedCarpet", "<init>", "()V"⟩ ∈ TB := tb_of (i := 57) (by decide +kernel) rfl
theorem tb_58 : Cond.code ⟨"StretchedCarpet", "<init>", "()V"⟩ prog_1_method_1_code 1 (Option.none : Option Jvm.ClassFile.FieldType) ∈ TB := tb_of (i := 58) (by decide +kernel) rfl
theorem tb_59 : Cond.methodLink "StretchedCarpet" 1 ⟨"java/lang/Object", "<init>", "()V"⟩ ∈ TB := tb_of (i := 59) (by decide +kernel) rfl
theorem tb_60 : Cond.instanceMethod ⟨"java/lang/Object", "<init>", "()V"⟩ ∈ TB := tb_of (i := 60) (by decide +kernel) rfl
theorem tb_61 : Cond.code ⟨"java/lang/Object", "<init>", "()V"⟩ object_method_1_code 1 (Option.none : Option Jvm.ClassFile.FieldType) ∈ TB := tb_of (i := 61) (by decide +kernel) rfl
theorem tb_62 : Cond.classLink "StretchedCarpet" 13 "StretchedCarpet$Room" ∈ TB := tb_of (i := 62) (by decide +kernel) rfl
theorem tb_63 : Cond.instantiable "StretchedCarpet$Room" 13 ∈ TB := tb_of (i := 63) (by decide +kernel) rfl
theorem tb_64 : Cond.methodLink "StretchedCarpet" 15 ⟨"StretchedCarpet$Room", "<init>", "()V"⟩ ∈ TB := tb_of (i := 64) (by decide +kernel) rfl
theorem tb_65 : Cond.instanceMethod ⟨"StretchedCarpet$Room", "<init>", "()V"⟩ ∈ TB := tb_of (i := 65) (by decide +kernel) rfl
theorem tb_66 : Cond.code ⟨"StretchedCarpet$Room", "<init>", "()V"⟩ prog_5_method_1_code 1 (Option.none : Option Jvm.ClassFile.FieldType) ∈ TB := tb_of (i := 66) (by decide +kernel) rfl
theorem tb_67 : Cond.methodLink "StretchedCarpet$Room" 3 ⟨"java/lang/Object", "<init>", "()V"⟩ ∈ TB := tb_of (i := 67) (by decide +kernel) rfl
theorem tb_68 : Cond.methodLink "StretchedCarpet$Room" 27 ⟨"StretchedCarpet$Room", "clear", "()V"⟩ ∈ TB := tb_of (i := 68) (by decide +kernel) rfl
theorem tb_70 : Cond.instanceMethod ⟨"StretchedCarpet$Room", "clear", "()V"⟩ ∈ TB := tb_of (i := 70) (by decide +kernel) rfl
theorem tb_71 : Cond.code ⟨"StretchedCarpet$Room", "clear", "()V"⟩ prog_5_method_2_code 1 (Option.none : Option Jvm.ClassFile.FieldType) ∈ TB := tb_of (i := 71) (by decide +kernel) rfl
theorem tb_72 : Cond.fieldLink "StretchedCarpet$Room" 9 "StretchedCarpet$Room" "stripLengths" "[I" ∈ TB := tb_of (i := 72) (by decide +kernel) rfl
theorem tb_73 : Cond.fieldLink "StretchedCarpet$Room" 15 "StretchedCarpet$Room" "lights" "[I" ∈ TB := tb_of (i := 73) (by decide +kernel) rfl
theorem tb_74 : Cond.fieldLink "StretchedCarpet$Room" 18 "StretchedCarpet$Room" "treads" "[I" ∈ TB := tb_of (i := 74) (by decide +kernel) rfl
theorem tb_75 : Cond.fieldLink "StretchedCarpet$Room" 21 "StretchedCarpet$Room" "damps" "[I" ∈ TB := tb_of (i := 75) (by decide +kernel) rfl
theorem tb_76 : Cond.fieldLink "StretchedCarpet$Room" 24 "StretchedCarpet$Room" "numbers" "[I" ∈ TB := tb_of (i := 76) (by decide +kernel) rfl
theorem tb_77 : Cond.fieldLink "StretchedCarpet$Room" 30 "StretchedCarpet$Room" "strips" "I" ∈ TB := tb_of (i := 77) (by decide +kernel) rfl
theorem tb_78 : Cond.fieldLinkNest "StretchedCarpet$CutPlan" 34 "StretchedCarpet$Room" "strips" "I" "StretchedCarpet" ∈ NB := nb_of (i := 78) (by decide +kernel) rfl
theorem tb_79 : Cond.fieldLinkNest "StretchedCarpet$Carpet" 49 "StretchedCarpet$Room" "strips" "I" "StretchedCarpet" ∈ NB := nb_of (i := 79) (by decide +kernel) rfl
theorem tb_80 : Cond.fieldLinkNest "StretchedCarpet" 96 "StretchedCarpet$Room" "strips" "I" "StretchedCarpet" ∈ NB := nb_of (i := 80) (by decide +kernel) rfl
theorem tb_81 : Cond.fieldLink "StretchedCarpet$Room" 34 "StretchedCarpet$Room" "dampCount" "I" ∈ TB := tb_of (i := 81) (by decide +kernel) rfl
theorem tb_82 : Cond.fieldLink "StretchedCarpet$Room" 37 "StretchedCarpet$Room" "rollBroad" "I" ∈ TB := tb_of (i := 82) (by decide +kernel) rfl
theorem tb_83 : Cond.fieldLinkNest "StretchedCarpet$CutPlan" 70 "StretchedCarpet$Room" "rollBroad" "I" "StretchedCarpet" ∈ NB := nb_of (i := 83) (by decide +kernel) rfl
theorem tb_84 : Cond.fieldLinkNest "StretchedCarpet$Carpet" 54 "StretchedCarpet$Room" "rollBroad" "I" "StretchedCarpet" ∈ NB := nb_of (i := 84) (by decide +kernel) rfl
theorem tb_85 : Cond.fieldLinkNest "StretchedCarpet" 236 "StretchedCarpet$Room" "rollBroad" "I" "StretchedCarpet" ∈ NB := nb_of (i := 85) (by decide +kernel) rfl
theorem tb_86 : Cond.fieldLinkNest "StretchedCarpet" 82 "StretchedCarpet$Room" "rollLong" "I" "StretchedCarpet" ∈ NB := nb_of (i := 86) (by decide +kernel) rfl
theorem tb_87 : Cond.fieldLink "StretchedCarpet$Room" 40 "StretchedCarpet$Room" "rollLong" "I" ∈ TB := tb_of (i := 87) (by decide +kernel) rfl
theorem tb_88 : Cond.fieldLink "StretchedCarpet$Room" 43 "StretchedCarpet$Room" "over" "I" ∈ TB := tb_of (i := 88) (by decide +kernel) rfl
theorem tb_89 : Cond.fieldLink "StretchedCarpet$Room" 46 "StretchedCarpet$Room" "hookHold" "I" ∈ TB := tb_of (i := 89) (by decide +kernel) rfl
theorem tb_90 : Cond.fieldLinkNest "StretchedCarpet$Carpet" 103 "StretchedCarpet$Room" "hookHold" "I" "StretchedCarpet" ∈ NB := nb_of (i := 90) (by decide +kernel) rfl
theorem tb_91 : Cond.fieldLink "StretchedCarpet$Room" 49 "StretchedCarpet$Room" "kind" "I" ∈ TB := tb_of (i := 91) (by decide +kernel) rfl
theorem tb_92 : Cond.fieldLinkNest "StretchedCarpet$Carpet" 79 "StretchedCarpet$Room" "kind" "I" "StretchedCarpet" ∈ NB := nb_of (i := 92) (by decide +kernel) rfl
theorem tb_93 : Cond.fieldLinkNest "StretchedCarpet" 226 "StretchedCarpet$Room" "kind" "I" "StretchedCarpet" ∈ NB := nb_of (i := 93) (by decide +kernel) rfl
theorem tb_94 : Cond.fieldLink "StretchedCarpet$Room" 52 "StretchedCarpet$Room" "gives" "I" ∈ TB := tb_of (i := 94) (by decide +kernel) rfl
theorem tb_95 : Cond.fieldLinkNest "StretchedCarpet$Carpet" 82 "StretchedCarpet$Room" "gives" "I" "StretchedCarpet" ∈ NB := nb_of (i := 95) (by decide +kernel) rfl
theorem tb_96 : Cond.fieldLinkNest "StretchedCarpet" 220 "StretchedCarpet$Room" "gives" "I" "StretchedCarpet" ∈ NB := nb_of (i := 96) (by decide +kernel) rfl
theorem tb_124 : Cond.arrayClass .char ∈ TB := tb_of (i := 124) (by decide +kernel) rfl
theorem tb_125 : Cond.arrayClass .int ∈ TB := tb_of (i := 125) (by decide +kernel) rfl
theorem tb_126 : Cond.classLink "StretchedCarpet" 23 "StretchedCarpet$Carpet" ∈ TB := tb_of (i := 126) (by decide +kernel) rfl
theorem tb_127 : Cond.instantiable "StretchedCarpet$Carpet" 8 ∈ TB := tb_of (i := 127) (by decide +kernel) rfl
theorem tb_128 : Cond.methodLink "StretchedCarpet" 25 ⟨"StretchedCarpet$Carpet", "<init>", "()V"⟩ ∈ TB := tb_of (i := 128) (by decide +kernel) rfl
theorem tb_129 : Cond.instanceMethod ⟨"StretchedCarpet$Carpet", "<init>", "()V"⟩ ∈ TB := tb_of (i := 129) (by decide +kernel) rfl
theorem tb_130 : Cond.code ⟨"StretchedCarpet$Carpet", "<init>", "()V"⟩ prog_2_method_1_code 1 (Option.none : Option Jvm.ClassFile.FieldType) ∈ TB := tb_of (i := 130) (by decide +kernel) rfl
theorem tb_131 : Cond.methodLink "StretchedCarpet$Carpet" 3 ⟨"java/lang/Object", "<init>", "()V"⟩ ∈ TB := tb_of (i := 131) (by decide +kernel) rfl
theorem tb_132 : Cond.methodLink "StretchedCarpet$Carpet" 18 ⟨"StretchedCarpet$Carpet", "clear", "(I)V"⟩ ∈ TB := tb_of (i := 132) (by decide +kernel) rfl
theorem tb_133 : Cond.instanceMethod ⟨"StretchedCarpet$Carpet", "clear", "(I)V"⟩ ∈ TB := tb_of (i := 133) (by decide +kernel) rfl
theorem tb_134 : Cond.selects "StretchedCarpet$Carpet" ⟨"StretchedCarpet$Carpet", "clear", "(I)V"⟩ ⟨"StretchedCarpet$Carpet", "clear", "(I)V"⟩ ∈ TB := tb_of (i := 134) (by decide +kernel) rfl
theorem tb_135 : Cond.code ⟨"StretchedCarpet$Carpet", "clear", "(I)V"⟩ prog_2_method_2_code 3 (Option.none : Option Jvm.ClassFile.FieldType) ∈ TB := tb_of (i := 135) (by decide +kernel) rfl
theorem tb_136 : Cond.methodLinkNest "StretchedCarpet$Carpet" 22 ⟨"StretchedCarpet", "put", "([III)V"⟩ "StretchedCarpet" ∈ NB := nb_of (i := 136) (by decide +kernel) rfl
theorem tb_137 : Cond.static ⟨"StretchedCarpet", "put", "([III)V"⟩ ∈ TB := tb_of (i := 137) (by decide +kernel) rfl
theorem tb_138 : Cond.code ⟨"StretchedCarpet", "put", "([III)V"⟩ prog_1_method_32_code 3 (Option.none : Option Jvm.ClassFile.FieldType) ∈ TB := tb_of (i := 138) (by decide +kernel) rfl
theorem tb_139 : Cond.fieldLink "StretchedCarpet$Carpet" 9 "StretchedCarpet$Carpet" "breadths" "[I" ∈ TB := tb_of (i := 139) (by decide +kernel) rfl
theorem tb_140 : Cond.fieldLink "StretchedCarpet$Carpet" 15 "StretchedCarpet$Carpet" "tightnesses" "[I" ∈ TB := tb_of (i := 140) (by decide +kernel) rfl
theorem tb_141 : Cond.fieldLink "StretchedCarpet$Carpet" 26 "StretchedCarpet$Carpet" "lengths" "I" ∈ TB := tb_of (i := 141) (by decide +kernel) rfl
theorem tb_142 : Cond.fieldLinkNest "StretchedCarpet" 281 "StretchedCarpet$Carpet" "lengths" "I" "StretchedCarpet" ∈ NB := nb_of (i := 142) (by decide +kernel) rfl
theorem tb_143 : Cond.fieldLinkNest "StretchedCarpet$CutPlan" 25 "StretchedCarpet$Carpet" "covered" "I" "StretchedCarpet" ∈ NB := nb_of (i := 143) (by decide +kernel) rfl
theorem tb_144 : Cond.fieldLink "StretchedCarpet$Carpet" 30 "StretchedCarpet$Carpet" "covered" "I" ∈ TB := tb_of (i := 144) (by decide +kernel) rfl
theorem tb_145 : Cond.fieldLink "StretchedCarpet$Carpet" 33 "StretchedCarpet$Carpet" "rollLeft" "I" ∈ TB := tb_of (i := 145) (by decide +kernel) rfl
theorem tb_146 : Cond.fieldLinkNest "StretchedCarpet$CutPlan" 60 "StretchedCarpet$Carpet" "rollLeft" "I" "StretchedCarpet" ∈ NB := nb_of (i := 146) (by decide +kernel) rfl
theorem tb_147 : Cond.fieldLinkNest "StretchedCarpet" 239 "StretchedCarpet$Carpet" "rollLeft" "I" "StretchedCarpet" ∈ NB := nb_of (i := 147) (by decide +kernel) rfl
theorem tb_148 : Cond.fieldLink "StretchedCarpet$Carpet" 36 "StretchedCarpet$Carpet" "hooked" "I" ∈ TB := tb_of (i := 148) (by decide +kernel) rfl
theorem tb_149 : Cond.fieldLinkNest "StretchedCarpet$HookOrder" 43 "StretchedCarpet$Carpet" "hooked" "I" "StretchedCarpet" ∈ NB := nb_of (i := 149) (by decide +kernel) rfl
theorem tb_150 : Cond.fieldLinkNest "StretchedCarpet" 287 "StretchedCarpet$Carpet" "hooked" "I" "StretchedCarpet" ∈ NB := nb_of (i := 150) (by decide +kernel) rfl
theorem tb_151 : Cond.fieldLink "StretchedCarpet$Carpet" 39 "StretchedCarpet$Carpet" "torn" "I" ∈ TB := tb_of (i := 151) (by decide +kernel) rfl
theorem tb_152 : Cond.fieldLinkNest "StretchedCarpet" 266 "StretchedCarpet$Carpet" "torn" "I" "StretchedCarpet" ∈ NB := nb_of (i := 152) (by decide +kernel) rfl
theorem tb_153 : Cond.fieldLink "StretchedCarpet$Carpet" 42 "StretchedCarpet$Carpet" "month" "I" ∈ TB := tb_of (i := 153) (by decide +kernel) rfl
theorem tb_154 : Cond.fieldLinkNest "StretchedCarpet" 163 "StretchedCarpet$Carpet" "month" "I" "StretchedCarpet" ∈ NB := nb_of (i := 154) (by decide +kernel) rfl
theorem tb_172 : Cond.classLink "StretchedCarpet" 33 "StretchedCarpet$Shelf" ∈ TB := tb_of (i := 172) (by decide +kernel) rfl
theorem tb_173 : Cond.instantiable "StretchedCarpet$Shelf" 3 ∈ TB := tb_of (i := 173) (by decide +kernel) rfl
theorem tb_174 : Cond.methodLink "StretchedCarpet" 35 ⟨"StretchedCarpet$Shelf", "<init>", "(I)V"⟩ ∈ TB := tb_of (i := 174) (by decide +kernel) rfl
theorem tb_175 : Cond.instanceMethod ⟨"StretchedCarpet$Shelf", "<init>", "(I)V"⟩ ∈ TB := tb_of (i := 175) (by decide +kernel) rfl
theorem tb_176 : Cond.code ⟨"StretchedCarpet$Shelf", "<init>", "(I)V"⟩ prog_6_method_1_code 3 (Option.none : Option Jvm.ClassFile.FieldType) ∈ TB := tb_of (i := 176) (by decide +kernel) rfl
theorem tb_177 : Cond.methodLink "StretchedCarpet$Shelf" 1 ⟨"java/lang/Object", "<init>", "()V"⟩ ∈ TB := tb_of (i := 177) (by decide +kernel) rfl
theorem tb_178 : Cond.methodLink "StretchedCarpet$Shelf" 7 ⟨"java/lang/Math", "max", "(II)I"⟩ ∈ TB := tb_of (i := 178) (by decide +kernel) rfl
theorem tb_179 : Cond.static ⟨"java/lang/Math", "max", "(II)I"⟩ ∈ TB := tb_of (i := 179) (by decide +kernel) rfl
theorem tb_180 : Cond.code ⟨"java/lang/Math", "max", "(II)I"⟩ prog_11_method_65_code 2 (Option.some .int) ∈ TB := tb_of (i := 180) (by decide +kernel) rfl
theorem tb_184 : Cond.fieldLink "StretchedCarpet$Shelf" 15 "StretchedCarpet$Shelf" "rows" "[LStretchedCarpet$Carpet;" ∈ TB := tb_of (i := 184) (by decide +kernel) rfl
theorem tb_185 : Cond.fieldLink "StretchedCarpet$Shelf" 22 "StretchedCarpet$Shelf" "next" "I" ∈ TB := tb_of (i := 185) (by decide +kernel) rfl
theorem tb_186 : Cond.fieldLink "StretchedCarpet$Shelf" 26 "StretchedCarpet$Shelf" "size" "I" ∈ TB := tb_of (i := 186) (by decide +kernel) rfl
theorem tb_187 : Cond.fieldLinkNest "StretchedCarpet" 174 "StretchedCarpet$Shelf" "size" "I" "StretchedCarpet" ∈ NB := nb_of (i := 187) (by decide +kernel) rfl
theorem tb_195 : Cond.classLink "StretchedCarpet" 45 "StretchedCarpet$Sightings" ∈ TB := tb_of (i := 195) (by decide +kernel) rfl
theorem tb_196 : Cond.instantiable "StretchedCarpet$Sightings" 3 ∈ TB := tb_of (i := 196) (by decide +kernel) rfl
theorem tb_197 : Cond.methodLink "StretchedCarpet" 47 ⟨"StretchedCarpet$Sightings", "<init>", "()V"⟩ ∈ TB := tb_of (i := 197) (by decide +kernel) rfl
theorem tb_198 : Cond.instanceMethod ⟨"StretchedCarpet$Sightings", "<init>", "()V"⟩ ∈ TB := tb_of (i := 198) (by decide +kernel) rfl
theorem tb_199 : Cond.code ⟨"StretchedCarpet$Sightings", "<init>", "()V"⟩ prog_7_method_1_code 1 (Option.none : Option Jvm.ClassFile.FieldType) ∈ TB := tb_of (i := 199) (by decide +kernel) rfl
theorem tb_200 : Cond.methodLink "StretchedCarpet$Sightings" 3 ⟨"java/lang/Object", "<init>", "()V"⟩ ∈ TB := tb_of (i := 200) (by decide +kernel) rfl
theorem tb_201 : Cond.methodLink "StretchedCarpet$Sightings" 18 ⟨"StretchedCarpet$Sightings", "clear", "()V"⟩ ∈ TB := tb_of (i := 201) (by decide +kernel) rfl
theorem tb_202 : Cond.instanceMethod ⟨"StretchedCarpet$Sightings", "clear", "()V"⟩ ∈ TB := tb_of (i := 202) (by decide +kernel) rfl
theorem tb_203 : Cond.selects "StretchedCarpet$Sightings" ⟨"StretchedCarpet$Sightings", "clear", "()V"⟩ ⟨"StretchedCarpet$Sightings", "clear", "()V"⟩ ∈ TB := tb_of (i := 203) (by decide +kernel) rfl
theorem tb_204 : Cond.code ⟨"StretchedCarpet$Sightings", "clear", "()V"⟩ prog_7_method_2_code 1 (Option.none : Option Jvm.ClassFile.FieldType) ∈ TB := tb_of (i := 204) (by decide +kernel) rfl
theorem tb_205 : Cond.fieldLink "StretchedCarpet$Sightings" 11 "StretchedCarpet$Sightings" "kicks" "[I" ∈ TB := tb_of (i := 205) (by decide +kernel) rfl
theorem tb_206 : Cond.fieldLink "StretchedCarpet$Sightings" 15 "StretchedCarpet$Sightings" "tightnesses" "[I" ∈ TB := tb_of (i := 206) (by decide +kernel) rfl
theorem tb_207 : Cond.fieldLink "StretchedCarpet$Sightings" 21 "StretchedCarpet$Sightings" "size" "I" ∈ TB := tb_of (i := 207) (by decide +kernel) rfl
theorem tb_208 : Cond.fieldLinkNest "StretchedCarpet" 219 "StretchedCarpet$Sightings" "size" "I" "StretchedCarpet" ∈ NB := nb_of (i := 208) (by decide +kernel) rfl
theorem tb_216 : Cond.classLink "StretchedCarpet" 52 "StretchedCarpet$CutPlan" ∈ TB := tb_of (i := 216) (by decide +kernel) rfl
theorem tb_217 : Cond.instantiable "StretchedCarpet$CutPlan" 8 ∈ TB := tb_of (i := 217) (by decide +kernel) rfl
theorem tb_218 : Cond.methodLink "StretchedCarpet" 54 ⟨"StretchedCarpet$CutPlan", "<init>", "()V"⟩ ∈ TB := tb_of (i := 218) (by decide +kernel) rfl
theorem tb_219 : Cond.instanceMethod ⟨"StretchedCarpet$CutPlan", "<init>", "()V"⟩ ∈ TB := tb_of (i := 219) (by decide +kernel) rfl
theorem tb_220 : Cond.code ⟨"StretchedCarpet$CutPlan", "<init>", "()V"⟩ prog_3_method_1_code 1 (Option.none : Option Jvm.ClassFile.FieldType) ∈ TB := tb_of (i := 220) (by decide +kernel) rfl
theorem tb_221 : Cond.methodLink "StretchedCarpet$CutPlan" 3 ⟨"java/lang/Object", "<init>", "()V"⟩ ∈ TB := tb_of (i := 221) (by decide +kernel) rfl
theorem tb_222 : Cond.fieldLink "StretchedCarpet$CutPlan" 9 "StretchedCarpet$CutPlan" "cutFrom" "[I" ∈ TB := tb_of (i := 222) (by decide +kernel) rfl
theorem tb_223 : Cond.fieldLink "StretchedCarpet$CutPlan" 15 "StretchedCarpet$CutPlan" "seamsFrom" "[I" ∈ TB := tb_of (i := 223) (by decide +kernel) rfl
theorem tb_224 : Cond.fieldLink "StretchedCarpet$CutPlan" 18 "StretchedCarpet$CutPlan" "breadthFrom" "[I" ∈ TB := tb_of (i := 224) (by decide +kernel) rfl
theorem tb_225 : Cond.fieldLink "StretchedCarpet$CutPlan" 31 "StretchedCarpet$CutPlan" "start" "I" ∈ TB := tb_of (i := 225) (by decide +kernel) rfl
theorem tb_226 : Cond.fieldLink "StretchedCarpet$CutPlan" 39 "StretchedCarpet$CutPlan" "end" "I" ∈ TB := tb_of (i := 226) (by decide +kernel) rfl
theorem tb_227 : Cond.fieldLink "StretchedCarpet$CutPlan" 21 "StretchedCarpet$CutPlan" "does" "Z" ∈ TB := tb_of (i := 227) (by decide +kernel) rfl
theorem tb_228 : Cond.fieldLinkNest "StretchedCarpet" 181 "StretchedCarpet$CutPlan" "does" "Z" "StretchedCarpet" ∈ NB := nb_of (i := 228) (by decide +kernel) rfl
theorem tb_229 : Cond.fieldLink "StretchedCarpet$CutPlan" 54 "StretchedCarpet$CutPlan" "leastCut" "I" ∈ TB := tb_of (i := 229) (by decide +kernel) rfl
theorem tb_230 : Cond.fieldLinkNest "StretchedCarpet" 185 "StretchedCarpet$CutPlan" "leastCut" "I" "StretchedCarpet" ∈ NB := nb_of (i := 230) (by decide +kernel) rfl
theorem tb_231 : Cond.fieldLink "StretchedCarpet$CutPlan" 57 "StretchedCarpet$CutPlan" "leastSeams" "I" ∈ TB := tb_of (i := 231) (by decide +kernel) rfl
theorem tb_232 : Cond.fieldLinkNest "StretchedCarpet" 188 "StretchedCarpet$CutPlan" "leastSeams" "I" "StretchedCarpet" ∈ NB := nb_of (i := 232) (by decide +kernel) rfl
theorem tb_250 : Cond.classLink "StretchedCarpet" 59 "StretchedCarpet$HookOrder" ∈ TB := tb_of (i := 250) (by decide +kernel) rfl
theorem tb_251 : Cond.instantiable "StretchedCarpet$HookOrder" 3 ∈ TB := tb_of (i := 251) (by decide +kernel) rfl
theorem tb_252 : Cond.methodLink "StretchedCarpet" 61 ⟨"StretchedCarpet$HookOrder", "<init>", "()V"⟩ ∈ TB := tb_of (i := 252) (by decide +kernel) rfl
theorem tb_253 : Cond.instanceMethod ⟨"StretchedCarpet$HookOrder", "<init>", "()V"⟩ ∈ TB := tb_of (i := 253) (by decide +kernel) rfl
theorem tb_254 : Cond.code ⟨"StretchedCarpet$HookOrder", "<init>", "()V"⟩ prog_4_method_1_code 1 (Option.none : Option Jvm.ClassFile.FieldType) ∈ TB := tb_of (i := 254) (by decide +kernel) rfl
theorem tb_255 : Cond.methodLink "StretchedCarpet$HookOrder" 3 ⟨"java/lang/Object", "<init>", "()V"⟩ ∈ TB := tb_of (i := 255) (by decide +kernel) rfl
theorem tb_256 : Cond.fieldLink "StretchedCarpet$HookOrder" 15 "StretchedCarpet$HookOrder" "free" "I" ∈ TB := tb_of (i := 256) (by decide +kernel) rfl
theorem tb_257 : Cond.fieldLink "StretchedCarpet$HookOrder" 32 "StretchedCarpet$HookOrder" "bestCode" "I" ∈ TB := tb_of (i := 257) (by decide +kernel) rfl
theorem tb_258 : Cond.fieldLink "StretchedCarpet$HookOrder" 9 "StretchedCarpet$HookOrder" "leastKicks" "I" ∈ TB := tb_of (i := 258) (by decide +kernel) rfl
theorem tb_259 : Cond.fieldLinkNest "StretchedCarpet" 197 "StretchedCarpet$HookOrder" "leastKicks" "I" "StretchedCarpet" ∈ NB := nb_of (i := 259) (by decide +kernel) rfl
theorem tb_321 : Cond.methodLink "StretchedCarpet" 78 ⟨"StretchedCarpet$Room", "readText", "([CI)I"⟩ ∈ TB := tb_of (i := 321) (by decide +kernel) rfl
theorem tb_322 : Cond.instanceMethod ⟨"StretchedCarpet$Room", "readText", "([CI)I"⟩ ∈ TB := tb_of (i := 322) (by decide +kernel) rfl
theorem tb_323 : Cond.selects "StretchedCarpet$Room" ⟨"StretchedCarpet$Room", "readText", "([CI)I"⟩ ⟨"StretchedCarpet$Room", "readText", "([CI)I"⟩ ∈ TB := tb_of (i := 323) (by decide +kernel) rfl
theorem tb_324 : Cond.code ⟨"StretchedCarpet$Room", "readText", "([CI)I"⟩ prog_5_method_3_code 6 (Option.some .int) ∈ TB := tb_of (i := 324) (by decide +kernel) rfl
theorem tb_325 : Cond.methodLink "StretchedCarpet$Room" 55 ⟨"StretchedCarpet$Room", "readNumbers", "([CII)I"⟩ ∈ TB := tb_of (i := 325) (by decide +kernel) rfl
theorem tb_327 : Cond.instanceMethod ⟨"StretchedCarpet$Room", "readNumbers", "([CII)I"⟩ ∈ TB := tb_of (i := 327) (by decide +kernel) rfl
theorem tb_328 : Cond.code ⟨"StretchedCarpet$Room", "readNumbers", "([CII)I"⟩ prog_5_method_4_code 8 (Option.some .int) ∈ TB := tb_of (i := 328) (by decide +kernel) rfl
theorem tb_329 : Cond.methodLink "StretchedCarpet$Room" 59 ⟨"StretchedCarpet$Room", "letterAt", "([CII)I"⟩ ∈ TB := tb_of (i := 329) (by decide +kernel) rfl
theorem tb_330 : Cond.static ⟨"StretchedCarpet$Room", "letterAt", "([CII)I"⟩ ∈ TB := tb_of (i := 330) (by decide +kernel) rfl
theorem tb_331 : Cond.code ⟨"StretchedCarpet$Room", "letterAt", "([CII)I"⟩ prog_5_method_9_code 3 (Option.some .int) ∈ TB := tb_of (i := 331) (by decide +kernel) rfl
theorem tb_332 : Cond.methodLink "StretchedCarpet$Room" 66 ⟨"StretchedCarpet$Room", "numbersBehind", "(I)I"⟩ ∈ TB := tb_of (i := 332) (by decide +kernel) rfl
theorem tb_333 : Cond.static ⟨"StretchedCarpet$Room", "numbersBehind", "(I)I"⟩ ∈ TB := tb_of (i := 333) (by decide +kernel) rfl
theorem tb_334 : Cond.code ⟨"StretchedCarpet$Room", "numbersBehind", "(I)I"⟩ prog_5_method_5_code 1 (Option.some .int) ∈ TB := tb_of (i := 334) (by decide +kernel) rfl
theorem tb_335 : Cond.methodLink "StretchedCarpet$Room" 70 ⟨"StretchedCarpet$Room", "figuresAt", "([CII)I"⟩ ∈ TB := tb_of (i := 335) (by decide +kernel) rfl
theorem tb_336 : Cond.static ⟨"StretchedCarpet$Room", "figuresAt", "([CII)I"⟩ ∈ TB := tb_of (i := 336) (by decide +kernel) rfl
theorem tb_337 : Cond.code ⟨"StretchedCarpet$Room", "figuresAt", "([CII)I"⟩ prog_5_method_6_code 3 (Option.some .int) ∈ TB := tb_of (i := 337) (by decide +kernel) rfl
theorem tb_338 : Cond.methodLink "StretchedCarpet$Room" 81 ⟨"StretchedCarpet$Room", "isFigure", "(I)Z"⟩ ∈ TB := tb_of (i := 338) (by decide +kernel) rfl
theorem tb_339 : Cond.static ⟨"StretchedCarpet$Room", "isFigure", "(I)Z"⟩ ∈ TB := tb_of (i := 339) (by decide +kernel) rfl
theorem tb_340 : Cond.code ⟨"StretchedCarpet$Room", "isFigure", "(I)Z"⟩ prog_5_method_8_code 1 (Option.some .boolean) ∈ TB := tb_of (i := 340) (by decide +kernel) rfl
theorem tb_341 : Cond.methodLinkNest "StretchedCarpet$Room" 84 ⟨"StretchedCarpet", "within", "(III)Z"⟩ "StretchedCarpet" ∈ NB := nb_of (i := 341) (by decide +kernel) rfl
theorem tb_342 : Cond.static ⟨"StretchedCarpet", "within", "(III)Z"⟩ ∈ TB := tb_of (i := 342) (by decide +kernel) rfl
theorem tb_343 : Cond.code ⟨"StretchedCarpet", "within", "(III)Z"⟩ prog_1_method_29_code 3 (Option.some .boolean) ∈ TB := tb_of (i := 343) (by decide +kernel) rfl
theorem tb_344 : Cond.methodLink "StretchedCarpet$Room" 73 ⟨"StretchedCarpet$Room", "numberAt", "([CIII)I"⟩ ∈ TB := tb_of (i := 344) (by decide +kernel) rfl
theorem tb_345 : Cond.static ⟨"StretchedCarpet$Room", "numberAt", "([CIII)I"⟩ ∈ TB := tb_of (i := 345) (by decide +kernel) rfl
theorem tb_346 : Cond.code ⟨"StretchedCarpet$Room", "numberAt", "([CIII)I"⟩ prog_5_method_7_code 6 (Option.some .int) ∈ TB := tb_of (i := 346) (by decide +kernel) rfl
theorem tb_347 : Cond.methodLinkNest "StretchedCarpet$Room" 77 ⟨"StretchedCarpet", "put", "([III)V"⟩ "StretchedCarpet" ∈ NB := nb_of (i := 347) (by decide +kernel) rfl
theorem tb_348 : Cond.methodLink "StretchedCarpet$Room" 62 ⟨"StretchedCarpet$Room", "takeItem", "(I)Z"⟩ ∈ TB := tb_of (i := 348) (by decide +kernel) rfl
theorem tb_350 : Cond.instanceMethod ⟨"StretchedCarpet$Room", "takeItem", "(I)Z"⟩ ∈ TB := tb_of (i := 350) (by decide +kernel) rfl
theorem tb_351 : Cond.code ⟨"StretchedCarpet$Room", "takeItem", "(I)Z"⟩ prog_5_method_10_code 4 (Option.some .boolean) ∈ TB := tb_of (i := 351) (by decide +kernel) rfl
theorem tb_352 : Cond.methodLinkNest "StretchedCarpet$Room" 88 ⟨"StretchedCarpet", "at", "([II)I"⟩ "StretchedCarpet" ∈ NB := nb_of (i := 352) (by decide +kernel) rfl
theorem tb_353 : Cond.static ⟨"StretchedCarpet", "at", "([II)I"⟩ ∈ TB := tb_of (i := 353) (by decide +kernel) rfl
theorem tb_354 : Cond.code ⟨"StretchedCarpet", "at", "([II)I"⟩ prog_1_method_31_code 2 (Option.some .int) ∈ TB := tb_of (i := 354) (by decide +kernel) rfl
theorem tb_355 : Cond.methodLink "StretchedCarpet$Room" 92 ⟨"StretchedCarpet$Room", "takeStrip", "(III)Z"⟩ ∈ TB := tb_of (i := 355) (by decide +kernel) rfl
theorem tb_357 : Cond.instanceMethod ⟨"StretchedCarpet$Room", "takeStrip", "(III)Z"⟩ ∈ TB := tb_of (i := 357) (by decide +kernel) rfl
theorem tb_358 : Cond.code ⟨"StretchedCarpet$Room", "takeStrip", "(III)Z"⟩ prog_5_method_11_code 4 (Option.some .boolean) ∈ TB := tb_of (i := 358) (by decide +kernel) rfl
theorem tb_359 : Cond.methodLink "StretchedCarpet$Room" 95 ⟨"StretchedCarpet$Room", "takeDamp", "(I)Z"⟩ ∈ TB := tb_of (i := 359) (by decide +kernel) rfl
theorem tb_361 : Cond.instanceMethod ⟨"StretchedCarpet$Room", "takeDamp", "(I)Z"⟩ ∈ TB := tb_of (i := 361) (by decide +kernel) rfl
theorem tb_362 : Cond.code ⟨"StretchedCarpet$Room", "takeDamp", "(I)Z"⟩ prog_5_method_12_code 2 (Option.some .boolean) ∈ TB := tb_of (i := 362) (by decide +kernel) rfl
theorem tb_363 : Cond.methodLink "StretchedCarpet" 86 ⟨"StretchedCarpet$Carpet", "clear", "(I)V"⟩ ∈ TB := tb_of (i := 363) (by decide +kernel) rfl
theorem tb_364 : Cond.fieldLink "StretchedCarpet" 9 "StretchedCarpet" "text" "[C" ∈ TB := tb_of (i := 364) (by decide +kernel) rfl
theorem tb_365 : Cond.fieldLink "StretchedCarpet" 93 "StretchedCarpet" "letters" "I" ∈ TB := tb_of (i := 365) (by decide +kernel) rfl
theorem tb_366 : Cond.fieldLink "StretchedCarpet" 16 "StretchedCarpet" "room" "LStretchedCarpet$Room;" ∈ TB := tb_of (i := 366) (by decide +kernel) rfl
theorem tb_367 : Cond.fieldLink "StretchedCarpet" 20 "StretchedCarpet" "draft" "LStretchedCarpet$Room;" ∈ TB := tb_of (i := 367) (by decide +kernel) rfl
theorem tb_368 : Cond.fieldLink "StretchedCarpet" 26 "StretchedCarpet" "carpet" "LStretchedCarpet$Carpet;" ∈ TB := tb_of (i := 368) (by decide +kernel) rfl
theorem tb_369 : Cond.fieldLink "StretchedCarpet" 30 "StretchedCarpet" "trial" "LStretchedCarpet$Carpet;" ∈ TB := tb_of (i := 369) (by decide +kernel) rfl
theorem tb_370 : Cond.fieldLink "StretchedCarpet" 38 "StretchedCarpet" "undoable" "LStretchedCarpet$Shelf;" ∈ TB := tb_of (i := 370) (by decide +kernel) rfl
theorem tb_371 : Cond.fieldLink "StretchedCarpet" 42 "StretchedCarpet" "kept" "LStretchedCarpet$Shelf;" ∈ TB := tb_of (i := 371) (by decide +kernel) rfl
theorem tb_372 : Cond.fieldLink "StretchedCarpet" 48 "StretchedCarpet" "sightings" "LStretchedCarpet$Sightings;" ∈ TB := tb_of (i := 372) (by decide +kernel) rfl
theorem tb_373 : Cond.fieldLink "StretchedCarpet" 55 "StretchedCarpet" "cutPlan" "LStretchedCarpet$CutPlan;" ∈ TB := tb_of (i := 373) (by decide +kernel) rfl
theorem tb_374 : Cond.fieldLink "StretchedCarpet" 62 "StretchedCarpet" "hookOrder" "LStretchedCarpet$HookOrder;" ∈ TB := tb_of (i := 374) (by decide +kernel) rfl
theorem tb_399 : Cond.methodLink "StretchedCarpetLaw" 13 ⟨"StretchedCarpet", "write", "(I)I"⟩ ∈ TB := tb_of (i := 399) (by decide +kernel) rfl
theorem tb_400 : Cond.instanceMethod ⟨"StretchedCarpet", "write", "(I)I"⟩ ∈ TB := tb_of (i := 400) (by decide +kernel) rfl
theorem tb_401 : Cond.selects "StretchedCarpet" ⟨"StretchedCarpet", "write", "(I)I"⟩ ⟨"StretchedCarpet", "write", "(I)I"⟩ ∈ TB := tb_of (i := 401) (by decide +kernel) rfl
theorem tb_402 : Cond.code ⟨"StretchedCarpet", "write", "(I)I"⟩ prog_1_method_2_code 2 (Option.some .int) ∈ TB := tb_of (i := 402) (by decide +kernel) rfl
theorem tb_403 : Cond.methodLink "StretchedCarpet" 89 ⟨"StretchedCarpet", "within", "(III)Z"⟩ ∈ TB := tb_of (i := 403) (by decide +kernel) rfl
theorem tb_404 : Cond.methodLink "StretchedCarpetLaw" 18 ⟨"StretchedCarpet", "wipe", "()I"⟩ ∈ TB := tb_of (i := 404) (by decide +kernel) rfl
theorem tb_405 : Cond.instanceMethod ⟨"StretchedCarpet", "wipe", "()I"⟩ ∈ TB := tb_of (i := 405) (by decide +kernel) rfl
theorem tb_406 : Cond.selects "StretchedCarpet" ⟨"StretchedCarpet", "wipe", "()I"⟩ ⟨"StretchedCarpet", "wipe", "()I"⟩ ∈ TB := tb_of (i := 406) (by decide +kernel) rfl
theorem tb_407 : Cond.code ⟨"StretchedCarpet", "wipe", "()I"⟩ prog_1_method_3_code 2 (Option.some .int) ∈ TB := tb_of (i := 407) (by decide +kernel) rfl
theorem tb_408 : Cond.methodLink "StretchedCarpetLaw" 23 ⟨"StretchedCarpet", "fault", "()I"⟩ ∈ TB := tb_of (i := 408) (by decide +kernel) rfl
theorem tb_409 : Cond.instanceMethod ⟨"StretchedCarpet", "fault", "()I"⟩ ∈ TB := tb_of (i := 409) (by decide +kernel) rfl
theorem tb_410 : Cond.selects "StretchedCarpet" ⟨"StretchedCarpet", "fault", "()I"⟩ ⟨"StretchedCarpet", "fault", "()I"⟩ ∈ TB := tb_of (i := 410) (by decide +kernel) rfl
theorem tb_411 : Cond.code ⟨"StretchedCarpet", "fault", "()I"⟩ prog_1_method_4_code 1 (Option.some .int) ∈ TB := tb_of (i := 411) (by decide +kernel) rfl
theorem tb_412 : Cond.methodLink "StretchedCarpetLaw" 27 ⟨"StretchedCarpet", "lay", "()I"⟩ ∈ TB := tb_of (i := 412) (by decide +kernel) rfl
theorem tb_413 : Cond.instanceMethod ⟨"StretchedCarpet", "lay", "()I"⟩ ∈ TB := tb_of (i := 413) (by decide +kernel) rfl
theorem tb_414 : Cond.selects "StretchedCarpet" ⟨"StretchedCarpet", "lay", "()I"⟩ ⟨"StretchedCarpet", "lay", "()I"⟩ ∈ TB := tb_of (i := 414) (by decide +kernel) rfl
theorem tb_415 : Cond.code ⟨"StretchedCarpet", "lay", "()I"⟩ prog_1_method_5_code 2 (Option.some .int) ∈ TB := tb_of (i := 415) (by decide +kernel) rfl
theorem tb_416 : Cond.methodLink "StretchedCarpet" 99 ⟨"StretchedCarpet$Shelf", "clear", "()V"⟩ ∈ TB := tb_of (i := 416) (by decide +kernel) rfl
theorem tb_417 : Cond.instanceMethod ⟨"StretchedCarpet$Shelf", "clear", "()V"⟩ ∈ TB := tb_of (i := 417) (by decide +kernel) rfl
theorem tb_418 : Cond.selects "StretchedCarpet$Shelf" ⟨"StretchedCarpet$Shelf", "clear", "()V"⟩ ⟨"StretchedCarpet$Shelf", "clear", "()V"⟩ ∈ TB := tb_of (i := 418) (by decide +kernel) rfl
theorem tb_419 : Cond.code ⟨"StretchedCarpet$Shelf", "clear", "()V"⟩ prog_6_method_2_code 1 (Option.none : Option Jvm.ClassFile.FieldType) ∈ TB := tb_of (i := 419) (by decide +kernel) rfl
theorem tb_420 : Cond.methodLink "StretchedCarpet" 101 ⟨"StretchedCarpet$Sightings", "clear", "()V"⟩ ∈ TB := tb_of (i := 420) (by decide +kernel) rfl
theorem tb_421 : Cond.methodLink "StretchedCarpetLaw" 31 ⟨"StretchedCarpet", "strip", "(II)I"⟩ ∈ TB := tb_of (i := 421) (by decide +kernel) rfl
theorem tb_422 : Cond.instanceMethod ⟨"StretchedCarpet", "strip", "(II)I"⟩ ∈ TB := tb_of (i := 422) (by decide +kernel) rfl
theorem tb_423 : Cond.selects "StretchedCarpet" ⟨"StretchedCarpet", "strip", "(II)I"⟩ ⟨"StretchedCarpet", "strip", "(II)I"⟩ ∈ TB := tb_of (i := 423) (by decide +kernel) rfl
theorem tb_424 : Cond.code ⟨"StretchedCarpet", "strip", "(II)I"⟩ prog_1_method_6_code 3 (Option.some .int) ∈ TB := tb_of (i := 424) (by decide +kernel) rfl
theorem tb_425 : Cond.methodLink "StretchedCarpet" 102 ⟨"StretchedCarpet$Room", "lengthOfStrip", "(I)I"⟩ ∈ TB := tb_of (i := 425) (by decide +kernel) rfl
theorem tb_426 : Cond.instanceMethod ⟨"StretchedCarpet$Room", "lengthOfStrip", "(I)I"⟩ ∈ TB := tb_of (i := 426) (by decide +kernel) rfl
theorem tb_427 : Cond.selects "StretchedCarpet$Room" ⟨"StretchedCarpet$Room", "lengthOfStrip", "(I)I"⟩ ⟨"StretchedCarpet$Room", "lengthOfStrip", "(I)I"⟩ ∈ TB := tb_of (i := 427) (by decide +kernel) rfl
theorem tb_428 : Cond.code ⟨"StretchedCarpet$Room", "lengthOfStrip", "(I)I"⟩ prog_5_method_13_code 2 (Option.some .int) ∈ TB := tb_of (i := 428) (by decide +kernel) rfl
theorem tb_429 : Cond.methodLink "StretchedCarpet" 106 ⟨"StretchedCarpet$Room", "lightAt", "(I)I"⟩ ∈ TB := tb_of (i := 429) (by decide +kernel) rfl
theorem tb_430 : Cond.instanceMethod ⟨"StretchedCarpet$Room", "lightAt", "(I)I"⟩ ∈ TB := tb_of (i := 430) (by decide +kernel) rfl
theorem tb_431 : Cond.selects "StretchedCarpet$Room" ⟨"StretchedCarpet$Room", "lightAt", "(I)I"⟩ ⟨"StretchedCarpet$Room", "lightAt", "(I)I"⟩ ∈ TB := tb_of (i := 431) (by decide +kernel) rfl
theorem tb_432 : Cond.code ⟨"StretchedCarpet$Room", "lightAt", "(I)I"⟩ prog_5_method_14_code 2 (Option.some .int) ∈ TB := tb_of (i := 432) (by decide +kernel) rfl
theorem tb_433 : Cond.methodLink "StretchedCarpet" 109 ⟨"StretchedCarpet$Room", "treadAt", "(I)I"⟩ ∈ TB := tb_of (i := 433) (by decide +kernel) rfl
theorem tb_434 : Cond.instanceMethod ⟨"StretchedCarpet$Room", "treadAt", "(I)I"⟩ ∈ TB := tb_of (i := 434) (by decide +kernel) rfl
theorem tb_435 : Cond.selects "StretchedCarpet$Room" ⟨"StretchedCarpet$Room", "treadAt", "(I)I"⟩ ⟨"StretchedCarpet$Room", "treadAt", "(I)I"⟩ ∈ TB := tb_of (i := 435) (by decide +kernel) rfl
theorem tb_436 : Cond.code ⟨"StretchedCarpet$Room", "treadAt", "(I)I"⟩ prog_5_method_15_code 2 (Option.some .int) ∈ TB := tb_of (i := 436) (by decide +kernel) rfl
theorem tb_437 : Cond.methodLink "StretchedCarpet" 112 ⟨"StretchedCarpet$Carpet", "lengthOver", "(I)I"⟩ ∈ TB := tb_of (i := 437) (by decide +kernel) rfl
theorem tb_438 : Cond.instanceMethod ⟨"StretchedCarpet$Carpet", "lengthOver", "(I)I"⟩ ∈ TB := tb_of (i := 438) (by decide +kernel) rfl
theorem tb_439 : Cond.selects "StretchedCarpet$Carpet" ⟨"StretchedCarpet$Carpet", "lengthOver", "(I)I"⟩ ⟨"StretchedCarpet$Carpet", "lengthOver", "(I)I"⟩ ∈ TB := tb_of (i := 439) (by decide +kernel) rfl
theorem tb_440 : Cond.code ⟨"StretchedCarpet$Carpet", "lengthOver", "(I)I"⟩ prog_2_method_7_code 4 (Option.some .int) ∈ TB := tb_of (i := 440) (by decide +kernel) rfl
theorem tb_441 : Cond.methodLinkNest "StretchedCarpet$Carpet" 61 ⟨"StretchedCarpet", "at", "([II)I"⟩ "StretchedCarpet" ∈ NB := nb_of (i := 441) (by decide +kernel) rfl
theorem tb_442 : Cond.methodLink "StretchedCarpet" 115 ⟨"StretchedCarpet$Carpet", "isSeamAt", "(I)Z"⟩ ∈ TB := tb_of (i := 442) (by decide +kernel) rfl
theorem tb_443 : Cond.instanceMethod ⟨"StretchedCarpet$Carpet", "isSeamAt", "(I)Z"⟩ ∈ TB := tb_of (i := 443) (by decide +kernel) rfl
theorem tb_444 : Cond.selects "StretchedCarpet$Carpet" ⟨"StretchedCarpet$Carpet", "isSeamAt", "(I)Z"⟩ ⟨"StretchedCarpet$Carpet", "isSeamAt", "(I)Z"⟩ ∈ TB := tb_of (i := 444) (by decide +kernel) rfl
theorem tb_445 : Cond.code ⟨"StretchedCarpet$Carpet", "isSeamAt", "(I)Z"⟩ prog_2_method_8_code 4 (Option.some .boolean) ∈ TB := tb_of (i := 445) (by decide +kernel) rfl
theorem tb_446 : Cond.methodLink "StretchedCarpet$Carpet" 65 ⟨"StretchedCarpet$Carpet", "lengthOver", "(I)I"⟩ ∈ TB := tb_of (i := 446) (by decide +kernel) rfl
theorem tb_447 : Cond.methodLink "StretchedCarpetLaw" 36 ⟨"StretchedCarpet", "wall", "(II)I"⟩ ∈ TB := tb_of (i := 447) (by decide +kernel) rfl
theorem tb_448 : Cond.instanceMethod ⟨"StretchedCarpet", "wall", "(II)I"⟩ ∈ TB := tb_of (i := 448) (by decide +kernel) rfl
theorem tb_449 : Cond.selects "StretchedCarpet" ⟨"StretchedCarpet", "wall", "(II)I"⟩ ⟨"StretchedCarpet", "wall", "(II)I"⟩ ∈ TB := tb_of (i := 449) (by decide +kernel) rfl
theorem tb_450 : Cond.code ⟨"StretchedCarpet", "wall", "(II)I"⟩ prog_1_method_7_code 3 (Option.some .int) ∈ TB := tb_of (i := 450) (by decide +kernel) rfl
theorem tb_451 : Cond.methodLink "StretchedCarpet" 119 ⟨"StretchedCarpet", "isWall", "(I)Z"⟩ ∈ TB := tb_of (i := 451) (by decide +kernel) rfl
theorem tb_452 : Cond.static ⟨"StretchedCarpet", "isWall", "(I)Z"⟩ ∈ TB := tb_of (i := 452) (by decide +kernel) rfl
theorem tb_453 : Cond.code ⟨"StretchedCarpet", "isWall", "(I)Z"⟩ prog_1_method_30_code 1 (Option.some .boolean) ∈ TB := tb_of (i := 453) (by decide +kernel) rfl
theorem tb_454 : Cond.methodLink "StretchedCarpet" 122 ⟨"StretchedCarpet$Carpet", "tightness", "(I)I"⟩ ∈ TB := tb_of (i := 454) (by decide +kernel) rfl
theorem tb_455 : Cond.instanceMethod ⟨"StretchedCarpet$Carpet", "tightness", "(I)I"⟩ ∈ TB := tb_of (i := 455) (by decide +kernel) rfl
theorem tb_456 : Cond.selects "StretchedCarpet$Carpet" ⟨"StretchedCarpet$Carpet", "tightness", "(I)I"⟩ ⟨"StretchedCarpet$Carpet", "tightness", "(I)I"⟩ ∈ TB := tb_of (i := 456) (by decide +kernel) rfl
theorem tb_457 : Cond.code ⟨"StretchedCarpet$Carpet", "tightness", "(I)I"⟩ prog_2_method_11_code 2 (Option.some .int) ∈ TB := tb_of (i := 457) (by decide +kernel) rfl
theorem tb_458 : Cond.methodLink "StretchedCarpet" 125 ⟨"StretchedCarpet$Carpet", "isHooked", "(I)Z"⟩ ∈ TB := tb_of (i := 458) (by decide +kernel) rfl
theorem tb_459 : Cond.instanceMethod ⟨"StretchedCarpet$Carpet", "isHooked", "(I)Z"⟩ ∈ TB := tb_of (i := 459) (by decide +kernel) rfl
theorem tb_460 : Cond.selects "StretchedCarpet$Carpet" ⟨"StretchedCarpet$Carpet", "isHooked", "(I)Z"⟩ ⟨"StretchedCarpet$Carpet", "isHooked", "(I)Z"⟩ ∈ TB := tb_of (i := 460) (by decide +kernel) rfl
theorem tb_461 : Cond.code ⟨"StretchedCarpet$Carpet", "isHooked", "(I)Z"⟩ prog_2_method_12_code 2 (Option.some .boolean) ∈ TB := tb_of (i := 461) (by decide +kernel) rfl
theorem tb_462 : Cond.methodLink "StretchedCarpet" 128 ⟨"StretchedCarpet$Carpet", "isTorn", "(I)Z"⟩ ∈ TB := tb_of (i := 462) (by decide +kernel) rfl
theorem tb_463 : Cond.instanceMethod ⟨"StretchedCarpet$Carpet", "isTorn", "(I)Z"⟩ ∈ TB := tb_of (i := 463) (by decide +kernel) rfl
theorem tb_464 : Cond.selects "StretchedCarpet$Carpet" ⟨"StretchedCarpet$Carpet", "isTorn", "(I)Z"⟩ ⟨"StretchedCarpet$Carpet", "isTorn", "(I)Z"⟩ ∈ TB := tb_of (i := 464) (by decide +kernel) rfl
theorem tb_465 : Cond.code ⟨"StretchedCarpet$Carpet", "isTorn", "(I)Z"⟩ prog_2_method_13_code 2 (Option.some .boolean) ∈ TB := tb_of (i := 465) (by decide +kernel) rfl
theorem tb_466 : Cond.methodLink "StretchedCarpet" 131 ⟨"StretchedCarpet$Carpet", "isWaving", "(I)Z"⟩ ∈ TB := tb_of (i := 466) (by decide +kernel) rfl
theorem tb_467 : Cond.instanceMethod ⟨"StretchedCarpet$Carpet", "isWaving", "(I)Z"⟩ ∈ TB := tb_of (i := 467) (by decide +kernel) rfl
theorem tb_468 : Cond.selects "StretchedCarpet$Carpet" ⟨"StretchedCarpet$Carpet", "isWaving", "(I)Z"⟩ ⟨"StretchedCarpet$Carpet", "isWaving", "(I)Z"⟩ ∈ TB := tb_of (i := 468) (by decide +kernel) rfl
theorem tb_469 : Cond.code ⟨"StretchedCarpet$Carpet", "isWaving", "(I)Z"⟩ prog_2_method_15_code 2 (Option.some .boolean) ∈ TB := tb_of (i := 469) (by decide +kernel) rfl
theorem tb_470 : Cond.methodLink "StretchedCarpet$Carpet" 69 ⟨"StretchedCarpet$Carpet", "isHooked", "(I)Z"⟩ ∈ TB := tb_of (i := 470) (by decide +kernel) rfl
theorem tb_471 : Cond.methodLink "StretchedCarpet$Carpet" 76 ⟨"StretchedCarpet$Carpet", "tightness", "(I)I"⟩ ∈ TB := tb_of (i := 471) (by decide +kernel) rfl
theorem tb_472 : Cond.methodLink "StretchedCarpetLaw" 40 ⟨"StretchedCarpet", "damp", "(I)I"⟩ ∈ TB := tb_of (i := 472) (by decide +kernel) rfl
theorem tb_473 : Cond.instanceMethod ⟨"StretchedCarpet", "damp", "(I)I"⟩ ∈ TB := tb_of (i := 473) (by decide +kernel) rfl
theorem tb_474 : Cond.selects "StretchedCarpet" ⟨"StretchedCarpet", "damp", "(I)I"⟩ ⟨"StretchedCarpet", "damp", "(I)I"⟩ ∈ TB := tb_of (i := 474) (by decide +kernel) rfl
theorem tb_475 : Cond.code ⟨"StretchedCarpet", "damp", "(I)I"⟩ prog_1_method_8_code 2 (Option.some .int) ∈ TB := tb_of (i := 475) (by decide +kernel) rfl
theorem tb_476 : Cond.methodLink "StretchedCarpet" 134 ⟨"StretchedCarpet$Room", "dampOf", "(I)I"⟩ ∈ TB := tb_of (i := 476) (by decide +kernel) rfl
theorem tb_477 : Cond.instanceMethod ⟨"StretchedCarpet$Room", "dampOf", "(I)I"⟩ ∈ TB := tb_of (i := 477) (by decide +kernel) rfl
theorem tb_478 : Cond.selects "StretchedCarpet$Room" ⟨"StretchedCarpet$Room", "dampOf", "(I)I"⟩ ⟨"StretchedCarpet$Room", "dampOf", "(I)I"⟩ ∈ TB := tb_of (i := 478) (by decide +kernel) rfl
theorem tb_479 : Cond.code ⟨"StretchedCarpet$Room", "dampOf", "(I)I"⟩ prog_5_method_16_code 2 (Option.some .int) ∈ TB := tb_of (i := 479) (by decide +kernel) rfl
theorem tb_480 : Cond.methodLink "StretchedCarpetLaw" 44 ⟨"StretchedCarpet", "cut", "(I)I"⟩ ∈ TB := tb_of (i := 480) (by decide +kernel) rfl
theorem tb_481 : Cond.instanceMethod ⟨"StretchedCarpet", "cut", "(I)I"⟩ ∈ TB := tb_of (i := 481) (by decide +kernel) rfl
theorem tb_482 : Cond.selects "StretchedCarpet" ⟨"StretchedCarpet", "cut", "(I)I"⟩ ⟨"StretchedCarpet", "cut", "(I)I"⟩ ∈ TB := tb_of (i := 482) (by decide +kernel) rfl
theorem tb_483 : Cond.code ⟨"StretchedCarpet", "cut", "(I)I"⟩ prog_1_method_9_code 2 (Option.some .int) ∈ TB := tb_of (i := 483) (by decide +kernel) rfl
theorem tb_484 : Cond.methodLink "StretchedCarpet" 137 ⟨"StretchedCarpet$Carpet", "canCut", "(LStretchedCarpet$Room;I)Z"⟩ ∈ TB := tb_of (i := 484) (by decide +kernel) rfl
theorem tb_485 : Cond.instanceMethod ⟨"StretchedCarpet$Carpet", "canCut", "(LStretchedCarpet$Room;I)Z"⟩ ∈ TB := tb_of (i := 485) (by decide +kernel) rfl
theorem tb_486 : Cond.selects "StretchedCarpet$Carpet" ⟨"StretchedCarpet$Carpet", "canCut", "(LStretchedCarpet$Room;I)Z"⟩ ⟨"StretchedCarpet$Carpet", "canCut", "(LStretchedCarpet$Room;I)Z"⟩ ∈ TB := tb_of (i := 486) (by decide +kernel) rfl
theorem tb_487 : Cond.code ⟨"StretchedCarpet$Carpet", "canCut", "(LStretchedCarpet$Room;I)Z"⟩ prog_2_method_5_code 3 (Option.some .boolean) ∈ TB := tb_of (i := 487) (by decide +kernel) rfl
theorem tb_488 : Cond.methodLink "StretchedCarpet$Carpet" 57 ⟨"StretchedCarpet$Room", "lengthFor", "(II)I"⟩ ∈ TB := tb_of (i := 488) (by decide +kernel) rfl
theorem tb_489 : Cond.instanceMethod ⟨"StretchedCarpet$Room", "lengthFor", "(II)I"⟩ ∈ TB := tb_of (i := 489) (by decide +kernel) rfl
theorem tb_490 : Cond.selects "StretchedCarpet$Room" ⟨"StretchedCarpet$Room", "lengthFor", "(II)I"⟩ ⟨"StretchedCarpet$Room", "lengthFor", "(II)I"⟩ ∈ TB := tb_of (i := 490) (by decide +kernel) rfl
theorem tb_491 : Cond.code ⟨"StretchedCarpet$Room", "lengthFor", "(II)I"⟩ prog_5_method_18_code 5 (Option.some .int) ∈ TB := tb_of (i := 491) (by decide +kernel) rfl
theorem tb_492 : Cond.methodLink "StretchedCarpet$Room" 101 ⟨"java/lang/Math", "max", "(II)I"⟩ ∈ TB := tb_of (i := 492) (by decide +kernel) rfl
theorem tb_493 : Cond.methodLink "StretchedCarpet" 141 ⟨"StretchedCarpet$Shelf", "push", "(LStretchedCarpet$Carpet;)V"⟩ ∈ TB := tb_of (i := 493) (by decide +kernel) rfl
theorem tb_494 : Cond.instanceMethod ⟨"StretchedCarpet$Shelf", "push", "(LStretchedCarpet$Carpet;)V"⟩ ∈ TB := tb_of (i := 494) (by decide +kernel) rfl
theorem tb_495 : Cond.selects "StretchedCarpet$Shelf" ⟨"StretchedCarpet$Shelf", "push", "(LStretchedCarpet$Carpet;)V"⟩ ⟨"StretchedCarpet$Shelf", "push", "(LStretchedCarpet$Carpet;)V"⟩ ∈ TB := tb_of (i := 495) (by decide +kernel) rfl
theorem tb_496 : Cond.code ⟨"StretchedCarpet$Shelf", "push", "(LStretchedCarpet$Carpet;)V"⟩ prog_6_method_5_code 3 (Option.none : Option Jvm.ClassFile.FieldType) ∈ TB := tb_of (i := 496) (by decide +kernel) rfl
theorem tb_497 : Cond.methodLink "StretchedCarpet$Shelf" 29 ⟨"StretchedCarpet$Shelf", "rowAt", "(I)LStretchedCarpet$Carpet;"⟩ ∈ TB := tb_of (i := 497) (by decide +kernel) rfl
theorem tb_499 : Cond.instanceMethod ⟨"StretchedCarpet$Shelf", "rowAt", "(I)LStretchedCarpet$Carpet;"⟩ ∈ TB := tb_of (i := 499) (by decide +kernel) rfl
theorem tb_500 : Cond.code ⟨"StretchedCarpet$Shelf", "rowAt", "(I)LStretchedCarpet$Carpet;"⟩ prog_6_method_4_code 2 (Option.some (.object "StretchedCarpet$Carpet")) ∈ TB := tb_of (i := 500) (by decide +kernel) rfl
theorem tb_501 : Cond.methodLink "StretchedCarpet$Shelf" 33 ⟨"StretchedCarpet$Carpet", "copyFrom", "(LStretchedCarpet$Carpet;)V"⟩ ∈ TB := tb_of (i := 501) (by decide +kernel) rfl
theorem tb_502 : Cond.instanceMethod ⟨"StretchedCarpet$Carpet", "copyFrom", "(LStretchedCarpet$Carpet;)V"⟩ ∈ TB := tb_of (i := 502) (by decide +kernel) rfl
theorem tb_503 : Cond.selects "StretchedCarpet$Carpet" ⟨"StretchedCarpet$Carpet", "copyFrom", "(LStretchedCarpet$Carpet;)V"⟩ ⟨"StretchedCarpet$Carpet", "copyFrom", "(LStretchedCarpet$Carpet;)V"⟩ ∈ TB := tb_of (i := 503) (by decide +kernel) rfl
theorem tb_504 : Cond.code ⟨"StretchedCarpet$Carpet", "copyFrom", "(LStretchedCarpet$Carpet;)V"⟩ prog_2_method_3_code 2 (Option.none : Option Jvm.ClassFile.FieldType) ∈ TB := tb_of (i := 504) (by decide +kernel) rfl
theorem tb_505 : Cond.methodLinkNest "StretchedCarpet$Carpet" 45 ⟨"StretchedCarpet", "copy", "([I[I)V"⟩ "StretchedCarpet" ∈ NB := nb_of (i := 505) (by decide +kernel) rfl
theorem tb_506 : Cond.static ⟨"StretchedCarpet", "copy", "([I[I)V"⟩ ∈ TB := tb_of (i := 506) (by decide +kernel) rfl
theorem tb_507 : Cond.code ⟨"StretchedCarpet", "copy", "([I[I)V"⟩ prog_1_method_33_code 3 (Option.none : Option Jvm.ClassFile.FieldType) ∈ TB := tb_of (i := 507) (by decide +kernel) rfl
theorem tb_508 : Cond.methodLink "StretchedCarpet$Shelf" 37 ⟨"java/lang/Math", "min", "(II)I"⟩ ∈ TB := tb_of (i := 508) (by decide +kernel) rfl
theorem tb_509 : Cond.static ⟨"java/lang/Math", "min", "(II)I"⟩ ∈ TB := tb_of (i := 509) (by decide +kernel) rfl
theorem tb_510 : Cond.code ⟨"java/lang/Math", "min", "(II)I"⟩ prog_11_method_69_code 2 (Option.some .int) ∈ TB := tb_of (i := 510) (by decide +kernel) rfl
theorem tb_511 : Cond.methodLink "StretchedCarpet" 145 ⟨"StretchedCarpet$Carpet", "cutFor", "(LStretchedCarpet$Room;I)I"⟩ ∈ TB := tb_of (i := 511) (by decide +kernel) rfl
theorem tb_512 : Cond.instanceMethod ⟨"StretchedCarpet$Carpet", "cutFor", "(LStretchedCarpet$Room;I)I"⟩ ∈ TB := tb_of (i := 512) (by decide +kernel) rfl
theorem tb_513 : Cond.selects "StretchedCarpet$Carpet" ⟨"StretchedCarpet$Carpet", "cutFor", "(LStretchedCarpet$Room;I)I"⟩ ⟨"StretchedCarpet$Carpet", "cutFor", "(LStretchedCarpet$Room;I)I"⟩ ∈ TB := tb_of (i := 513) (by decide +kernel) rfl
theorem tb_514 : Cond.code ⟨"StretchedCarpet$Carpet", "cutFor", "(LStretchedCarpet$Room;I)I"⟩ prog_2_method_6_code 4 (Option.some .int) ∈ TB := tb_of (i := 514) (by decide +kernel) rfl
theorem tb_515 : Cond.methodLink "StretchedCarpetLaw" 48 ⟨"StretchedCarpet", "hook", "(II)I"⟩ ∈ TB := tb_of (i := 515) (by decide +kernel) rfl
theorem tb_516 : Cond.instanceMethod ⟨"StretchedCarpet", "hook", "(II)I"⟩ ∈ TB := tb_of (i := 516) (by decide +kernel) rfl
theorem tb_517 : Cond.selects "StretchedCarpet" ⟨"StretchedCarpet", "hook", "(II)I"⟩ ⟨"StretchedCarpet", "hook", "(II)I"⟩ ∈ TB := tb_of (i := 517) (by decide +kernel) rfl
theorem tb_518 : Cond.code ⟨"StretchedCarpet", "hook", "(II)I"⟩ prog_1_method_10_code 3 (Option.some .int) ∈ TB := tb_of (i := 518) (by decide +kernel) rfl
theorem tb_519 : Cond.methodLink "StretchedCarpet" 149 ⟨"StretchedCarpet$Carpet", "isCovered", "(LStretchedCarpet$Room;)Z"⟩ ∈ TB := tb_of (i := 519) (by decide +kernel) rfl
theorem tb_520 : Cond.instanceMethod ⟨"StretchedCarpet$Carpet", "isCovered", "(LStretchedCarpet$Room;)Z"⟩ ∈ TB := tb_of (i := 520) (by decide +kernel) rfl
theorem tb_521 : Cond.selects "StretchedCarpet$Carpet" ⟨"StretchedCarpet$Carpet", "isCovered", "(LStretchedCarpet$Room;)Z"⟩ ⟨"StretchedCarpet$Carpet", "isCovered", "(LStretchedCarpet$Room;)Z"⟩ ∈ TB := tb_of (i := 521) (by decide +kernel) rfl
theorem tb_522 : Cond.code ⟨"StretchedCarpet$Carpet", "isCovered", "(LStretchedCarpet$Room;)Z"⟩ prog_2_method_4_code 2 (Option.some .boolean) ∈ TB := tb_of (i := 522) (by decide +kernel) rfl
theorem tb_523 : Cond.methodLink "StretchedCarpet" 153 ⟨"StretchedCarpet$Carpet", "isFree", "(I)Z"⟩ ∈ TB := tb_of (i := 523) (by decide +kernel) rfl
theorem tb_524 : Cond.instanceMethod ⟨"StretchedCarpet$Carpet", "isFree", "(I)Z"⟩ ∈ TB := tb_of (i := 524) (by decide +kernel) rfl
theorem tb_525 : Cond.selects "StretchedCarpet$Carpet" ⟨"StretchedCarpet$Carpet", "isFree", "(I)Z"⟩ ⟨"StretchedCarpet$Carpet", "isFree", "(I)Z"⟩ ∈ TB := tb_of (i := 525) (by decide +kernel) rfl
theorem tb_526 : Cond.code ⟨"StretchedCarpet$Carpet", "isFree", "(I)Z"⟩ prog_2_method_14_code 2 (Option.some .boolean) ∈ TB := tb_of (i := 526) (by decide +kernel) rfl
theorem tb_527 : Cond.methodLink "StretchedCarpet$Carpet" 73 ⟨"StretchedCarpet$Carpet", "isTorn", "(I)Z"⟩ ∈ TB := tb_of (i := 527) (by decide +kernel) rfl
theorem tb_528 : Cond.methodLink "StretchedCarpet" 156 ⟨"StretchedCarpet$Carpet", "hookOn", "(LStretchedCarpet$Room;II)I"⟩ ∈ TB := tb_of (i := 528) (by decide +kernel) rfl
theorem tb_529 : Cond.instanceMethod ⟨"StretchedCarpet$Carpet", "hookOn", "(LStretchedCarpet$Room;II)I"⟩ ∈ TB := tb_of (i := 529) (by decide +kernel) rfl
theorem tb_530 : Cond.selects "StretchedCarpet$Carpet" ⟨"StretchedCarpet$Carpet", "hookOn", "(LStretchedCarpet$Room;II)I"⟩ ⟨"StretchedCarpet$Carpet", "hookOn", "(LStretchedCarpet$Room;II)I"⟩ ∈ TB := tb_of (i := 530) (by decide +kernel) rfl
theorem tb_531 : Cond.code ⟨"StretchedCarpet$Carpet", "hookOn", "(LStretchedCarpet$Room;II)I"⟩ prog_2_method_19_code 5 (Option.some .int) ∈ TB := tb_of (i := 531) (by decide +kernel) rfl
theorem tb_532 : Cond.methodLink "StretchedCarpet$Carpet" 99 ⟨"StretchedCarpet$Carpet", "tightnessBy", "(LStretchedCarpet$Room;II)I"⟩ ∈ TB := tb_of (i := 532) (by decide +kernel) rfl
theorem tb_533 : Cond.instanceMethod ⟨"StretchedCarpet$Carpet", "tightnessBy", "(LStretchedCarpet$Room;II)I"⟩ ∈ TB := tb_of (i := 533) (by decide +kernel) rfl
theorem tb_534 : Cond.selects "StretchedCarpet$Carpet" ⟨"StretchedCarpet$Carpet", "tightnessBy", "(LStretchedCarpet$Room;II)I"⟩ ⟨"StretchedCarpet$Carpet", "tightnessBy", "(LStretchedCarpet$Room;II)I"⟩ ∈ TB := tb_of (i := 534) (by decide +kernel) rfl
theorem tb_535 : Cond.code ⟨"StretchedCarpet$Carpet", "tightnessBy", "(LStretchedCarpet$Room;II)I"⟩ prog_2_method_17_code 6 (Option.some .int) ∈ TB := tb_of (i := 535) (by decide +kernel) rfl
theorem tb_536 : Cond.methodLink "StretchedCarpet$Carpet" 85 ⟨"java/lang/Integer", "bitCount", "(I)I"⟩ ∈ TB := tb_of (i := 536) (by decide +kernel) rfl
theorem tb_537 : Cond.static ⟨"java/lang/Integer", "bitCount", "(I)I"⟩ ∈ TB := tb_of (i := 537) (by decide +kernel) rfl
theorem tb_538 : Cond.code ⟨"java/lang/Integer", "bitCount", "(I)I"⟩ prog_10_method_49_code 1 (Option.some .int) ∈ TB := tb_of (i := 538) (by decide +kernel) rfl
theorem tb_539 : Cond.constant "java/lang/Integer" 265 (iI (1431655765)) ∈ TB := tb_of (i := 539) (by decide +kernel) rfl
theorem tb_540 : Cond.constant "java/lang/Integer" 266 (iI (858993459)) ∈ TB := tb_of (i := 540) (by decide +kernel) rfl
theorem tb_541 : Cond.constant "java/lang/Integer" 267 (iI (252645135)) ∈ TB := tb_of (i := 541) (by decide +kernel) rfl
theorem tb_542 : Cond.methodLinkNest "StretchedCarpet$Carpet" 90 ⟨"StretchedCarpet", "slackOf", "(III)I"⟩ "StretchedCarpet" ∈ NB := nb_of (i := 542) (by decide +kernel) rfl
theorem tb_543 : Cond.static ⟨"StretchedCarpet", "slackOf", "(III)I"⟩ ∈ TB := tb_of (i := 543) (by decide +kernel) rfl
theorem tb_544 : Cond.code ⟨"StretchedCarpet", "slackOf", "(III)I"⟩ prog_1_method_38_code 3 (Option.some .int) ∈ TB := tb_of (i := 544) (by decide +kernel) rfl
theorem tb_545 : Cond.methodLink "StretchedCarpet$Carpet" 94 ⟨"java/lang/Math", "max", "(II)I"⟩ ∈ TB := tb_of (i := 545) (by decide +kernel) rfl
theorem tb_546 : Cond.methodLink "StretchedCarpetLaw" 52 ⟨"StretchedCarpet", "letGo", "(I)I"⟩ ∈ TB := tb_of (i := 546) (by decide +kernel) rfl
theorem tb_547 : Cond.instanceMethod ⟨"StretchedCarpet", "letGo", "(I)I"⟩ ∈ TB := tb_of (i := 547) (by decide +kernel) rfl
theorem tb_548 : Cond.selects "StretchedCarpet" ⟨"StretchedCarpet", "letGo", "(I)I"⟩ ⟨"StretchedCarpet", "letGo", "(I)I"⟩ ∈ TB := tb_of (i := 548) (by decide +kernel) rfl
theorem tb_549 : Cond.code ⟨"StretchedCarpet", "letGo", "(I)I"⟩ prog_1_method_11_code 2 (Option.some .int) ∈ TB := tb_of (i := 549) (by decide +kernel) rfl
theorem tb_550 : Cond.methodLink "StretchedCarpet" 160 ⟨"StretchedCarpet$Carpet", "unhook", "(I)I"⟩ ∈ TB := tb_of (i := 550) (by decide +kernel) rfl
theorem tb_551 : Cond.instanceMethod ⟨"StretchedCarpet$Carpet", "unhook", "(I)I"⟩ ∈ TB := tb_of (i := 551) (by decide +kernel) rfl
theorem tb_552 : Cond.selects "StretchedCarpet$Carpet" ⟨"StretchedCarpet$Carpet", "unhook", "(I)I"⟩ ⟨"StretchedCarpet$Carpet", "unhook", "(I)I"⟩ ∈ TB := tb_of (i := 552) (by decide +kernel) rfl
theorem tb_553 : Cond.code ⟨"StretchedCarpet$Carpet", "unhook", "(I)I"⟩ prog_2_method_20_code 3 (Option.some .int) ∈ TB := tb_of (i := 553) (by decide +kernel) rfl
theorem tb_554 : Cond.methodLink "StretchedCarpetLaw" 56 ⟨"StretchedCarpet", "pass", "(I)I"⟩ ∈ TB := tb_of (i := 554) (by decide +kernel) rfl
theorem tb_555 : Cond.instanceMethod ⟨"StretchedCarpet", "pass", "(I)I"⟩ ∈ TB := tb_of (i := 555) (by decide +kernel) rfl
theorem tb_556 : Cond.selects "StretchedCarpet" ⟨"StretchedCarpet", "pass", "(I)I"⟩ ⟨"StretchedCarpet", "pass", "(I)I"⟩ ∈ TB := tb_of (i := 556) (by decide +kernel) rfl
theorem tb_557 : Cond.code ⟨"StretchedCarpet", "pass", "(I)I"⟩ prog_1_method_12_code 3 (Option.some .int) ∈ TB := tb_of (i := 557) (by decide +kernel) rfl
theorem tb_558 : Cond.methodLink "StretchedCarpet" 166 ⟨"StretchedCarpet$Carpet", "passMonth", "(LStretchedCarpet$Room;)V"⟩ ∈ TB := tb_of (i := 558) (by decide +kernel) rfl
theorem tb_559 : Cond.instanceMethod ⟨"StretchedCarpet$Carpet", "passMonth", "(LStretchedCarpet$Room;)V"⟩ ∈ TB := tb_of (i := 559) (by decide +kernel) rfl
theorem tb_560 : Cond.selects "StretchedCarpet$Carpet" ⟨"StretchedCarpet$Carpet", "passMonth", "(LStretchedCarpet$Room;)V"⟩ ⟨"StretchedCarpet$Carpet", "passMonth", "(LStretchedCarpet$Room;)V"⟩ ∈ TB := tb_of (i := 560) (by decide +kernel) rfl
theorem tb_561 : Cond.code ⟨"StretchedCarpet$Carpet", "passMonth", "(LStretchedCarpet$Room;)V"⟩ prog_2_method_21_code 4 (Option.none : Option Jvm.ClassFile.FieldType) ∈ TB := tb_of (i := 561) (by decide +kernel) rfl
theorem tb_562 : Cond.methodLink "StretchedCarpet$Carpet" 106 ⟨"StretchedCarpet$Room", "slackeningIn", "(I)I"⟩ ∈ TB := tb_of (i := 562) (by decide +kernel) rfl
theorem tb_563 : Cond.instanceMethod ⟨"StretchedCarpet$Room", "slackeningIn", "(I)I"⟩ ∈ TB := tb_of (i := 563) (by decide +kernel) rfl
theorem tb_564 : Cond.selects "StretchedCarpet$Room" ⟨"StretchedCarpet$Room", "slackeningIn", "(I)I"⟩ ⟨"StretchedCarpet$Room", "slackeningIn", "(I)I"⟩ ∈ TB := tb_of (i := 564) (by decide +kernel) rfl
theorem tb_565 : Cond.code ⟨"StretchedCarpet$Room", "slackeningIn", "(I)I"⟩ prog_5_method_17_code 2 (Option.some .int) ∈ TB := tb_of (i := 565) (by decide +kernel) rfl
theorem tb_566 : Cond.methodLink "StretchedCarpet$Room" 98 ⟨"StretchedCarpet$Room", "dampOf", "(I)I"⟩ ∈ TB := tb_of (i := 566) (by decide +kernel) rfl
theorem tb_567 : Cond.methodLink "StretchedCarpetLaw" 60 ⟨"StretchedCarpet", "undo", "()I"⟩ ∈ TB := tb_of (i := 567) (by decide +kernel) rfl
theorem tb_568 : Cond.instanceMethod ⟨"StretchedCarpet", "undo", "()I"⟩ ∈ TB := tb_of (i := 568) (by decide +kernel) rfl
theorem tb_569 : Cond.selects "StretchedCarpet" ⟨"StretchedCarpet", "undo", "()I"⟩ ⟨"StretchedCarpet", "undo", "()I"⟩ ∈ TB := tb_of (i := 569) (by decide +kernel) rfl
theorem tb_570 : Cond.code ⟨"StretchedCarpet", "undo", "()I"⟩ prog_1_method_13_code 1 (Option.some .int) ∈ TB := tb_of (i := 570) (by decide +kernel) rfl
theorem tb_571 : Cond.methodLink "StretchedCarpet" 170 ⟨"StretchedCarpet$Shelf", "pop", "(LStretchedCarpet$Carpet;)Z"⟩ ∈ TB := tb_of (i := 571) (by decide +kernel) rfl
theorem tb_572 : Cond.instanceMethod ⟨"StretchedCarpet$Shelf", "pop", "(LStretchedCarpet$Carpet;)Z"⟩ ∈ TB := tb_of (i := 572) (by decide +kernel) rfl
theorem tb_573 : Cond.selects "StretchedCarpet$Shelf" ⟨"StretchedCarpet$Shelf", "pop", "(LStretchedCarpet$Carpet;)Z"⟩ ⟨"StretchedCarpet$Shelf", "pop", "(LStretchedCarpet$Carpet;)Z"⟩ ∈ TB := tb_of (i := 573) (by decide +kernel) rfl
theorem tb_574 : Cond.code ⟨"StretchedCarpet$Shelf", "pop", "(LStretchedCarpet$Carpet;)Z"⟩ prog_6_method_6_code 4 (Option.some .boolean) ∈ TB := tb_of (i := 574) (by decide +kernel) rfl
theorem tb_575 : Cond.methodLink "StretchedCarpetLaw" 64 ⟨"StretchedCarpet", "plan", "(I)I"⟩ ∈ TB := tb_of (i := 575) (by decide +kernel) rfl
theorem tb_576 : Cond.instanceMethod ⟨"StretchedCarpet", "plan", "(I)I"⟩ ∈ TB := tb_of (i := 576) (by decide +kernel) rfl
theorem tb_577 : Cond.selects "StretchedCarpet" ⟨"StretchedCarpet", "plan", "(I)I"⟩ ⟨"StretchedCarpet", "plan", "(I)I"⟩ ∈ TB := tb_of (i := 577) (by decide +kernel) rfl
theorem tb_578 : Cond.code ⟨"StretchedCarpet", "plan", "(I)I"⟩ prog_1_method_14_code 2 (Option.some .int) ∈ TB := tb_of (i := 578) (by decide +kernel) rfl
theorem tb_579 : Cond.methodLink "StretchedCarpet" 177 ⟨"StretchedCarpet$CutPlan", "make", "(LStretchedCarpet$Room;LStretchedCarpet$Carpet;)V"⟩ ∈ TB := tb_of (i := 579) (by decide +kernel) rfl
theorem tb_580 : Cond.instanceMethod ⟨"StretchedCarpet$CutPlan", "make", "(LStretchedCarpet$Room;LStretchedCarpet$Carpet;)V"⟩ ∈ TB := tb_of (i := 580) (by decide +kernel) rfl
theorem tb_581 : Cond.selects "StretchedCarpet$CutPlan" ⟨"StretchedCarpet$CutPlan", "make", "(LStretchedCarpet$Room;LStretchedCarpet$Carpet;)V"⟩ ⟨"StretchedCarpet$CutPlan", "make", "(LStretchedCarpet$Room;LStretchedCarpet$Carpet;)V"⟩ ∈ TB := tb_of (i := 581) (by decide +kernel) rfl
theorem tb_582 : Cond.code ⟨"StretchedCarpet$CutPlan", "make", "(LStretchedCarpet$Room;LStretchedCarpet$Carpet;)V"⟩ prog_3_method_2_code 4 (Option.none : Option Jvm.ClassFile.FieldType) ∈ TB := tb_of (i := 582) (by decide +kernel) rfl
theorem tb_583 : Cond.methodLinkNest "StretchedCarpet$CutPlan" 42 ⟨"StretchedCarpet", "put", "([III)V"⟩ "StretchedCarpet" ∈ NB := nb_of (i := 583) (by decide +kernel) rfl
theorem tb_584 : Cond.methodLink "StretchedCarpet$CutPlan" 46 ⟨"StretchedCarpet$CutPlan", "choose", "(LStretchedCarpet$Room;I)V"⟩ ∈ TB := tb_of (i := 584) (by decide +kernel) rfl
theorem tb_586 : Cond.instanceMethod ⟨"StretchedCarpet$CutPlan", "choose", "(LStretchedCarpet$Room;I)V"⟩ ∈ TB := tb_of (i := 586) (by decide +kernel) rfl
theorem tb_587 : Cond.code ⟨"StretchedCarpet$CutPlan", "choose", "(LStretchedCarpet$Room;I)V"⟩ prog_3_method_3_code 8 (Option.none : Option Jvm.ClassFile.FieldType) ∈ TB := tb_of (i := 587) (by decide +kernel) rfl
theorem tb_588 : Cond.methodLink "StretchedCarpet$CutPlan" 63 ⟨"StretchedCarpet$Room", "lightAt", "(I)I"⟩ ∈ TB := tb_of (i := 588) (by decide +kernel) rfl
theorem tb_589 : Cond.methodLink "StretchedCarpet$CutPlan" 67 ⟨"StretchedCarpet$Room", "treadAt", "(I)I"⟩ ∈ TB := tb_of (i := 589) (by decide +kernel) rfl
theorem tb_590 : Cond.methodLink "StretchedCarpet$CutPlan" 73 ⟨"java/lang/Math", "min", "(II)I"⟩ ∈ TB := tb_of (i := 590) (by decide +kernel) rfl
theorem tb_591 : Cond.methodLink "StretchedCarpet$CutPlan" 79 ⟨"StretchedCarpet$Room", "lengthFor", "(II)I"⟩ ∈ TB := tb_of (i := 591) (by decide +kernel) rfl
theorem tb_592 : Cond.methodLinkNest "StretchedCarpet$CutPlan" 50 ⟨"StretchedCarpet", "at", "([II)I"⟩ "StretchedCarpet" ∈ NB := nb_of (i := 592) (by decide +kernel) rfl
theorem tb_593 : Cond.methodLink "StretchedCarpet$CutPlan" 82 ⟨"StretchedCarpet$CutPlan", "isLess", "(III)Z"⟩ ∈ TB := tb_of (i := 593) (by decide +kernel) rfl
theorem tb_595 : Cond.instanceMethod ⟨"StretchedCarpet$CutPlan", "isLess", "(III)Z"⟩ ∈ TB := tb_of (i := 595) (by decide +kernel) rfl
theorem tb_596 : Cond.code ⟨"StretchedCarpet$CutPlan", "isLess", "(III)Z"⟩ prog_3_method_4_code 5 (Option.some .boolean) ∈ TB := tb_of (i := 596) (by decide +kernel) rfl
theorem tb_597 : Cond.methodLink "StretchedCarpet" 191 ⟨"StretchedCarpet$CutPlan", "breadthOf", "(I)I"⟩ ∈ TB := tb_of (i := 597) (by decide +kernel) rfl
theorem tb_598 : Cond.instanceMethod ⟨"StretchedCarpet$CutPlan", "breadthOf", "(I)I"⟩ ∈ TB := tb_of (i := 598) (by decide +kernel) rfl
theorem tb_599 : Cond.selects "StretchedCarpet$CutPlan" ⟨"StretchedCarpet$CutPlan", "breadthOf", "(I)I"⟩ ⟨"StretchedCarpet$CutPlan", "breadthOf", "(I)I"⟩ ∈ TB := tb_of (i := 599) (by decide +kernel) rfl
theorem tb_600 : Cond.code ⟨"StretchedCarpet$CutPlan", "breadthOf", "(I)I"⟩ prog_3_method_5_code 5 (Option.some .int) ∈ TB := tb_of (i := 600) (by decide +kernel) rfl
theorem tb_601 : Cond.methodLink "StretchedCarpetLaw" 68 ⟨"StretchedCarpet", "order", "(I)I"⟩ ∈ TB := tb_of (i := 601) (by decide +kernel) rfl
theorem tb_602 : Cond.instanceMethod ⟨"StretchedCarpet", "order", "(I)I"⟩ ∈ TB := tb_of (i := 602) (by decide +kernel) rfl
theorem tb_603 : Cond.selects "StretchedCarpet" ⟨"StretchedCarpet", "order", "(I)I"⟩ ⟨"StretchedCarpet", "order", "(I)I"⟩ ∈ TB := tb_of (i := 603) (by decide +kernel) rfl
theorem tb_604 : Cond.code ⟨"StretchedCarpet", "order", "(I)I"⟩ prog_1_method_15_code 2 (Option.some .int) ∈ TB := tb_of (i := 604) (by decide +kernel) rfl
theorem tb_605 : Cond.methodLink "StretchedCarpet" 194 ⟨"StretchedCarpet$HookOrder", "make", "(LStretchedCarpet$Room;LStretchedCarpet$Carpet;LStretchedCarpet$Carpet;)V"⟩ ∈ TB := tb_of (i := 605) (by decide +kernel) rfl
theorem tb_606 : Cond.instanceMethod ⟨"StretchedCarpet$HookOrder", "make", "(LStretchedCarpet$Room;LStretchedCarpet$Carpet;LStretchedCarpet$Carpet;)V"⟩ ∈ TB := tb_of (i := 606) (by decide +kernel) rfl
theorem tb_607 : Cond.selects "StretchedCarpet$HookOrder" ⟨"StretchedCarpet$HookOrder", "make", "(LStretchedCarpet$Room;LStretchedCarpet$Carpet;LStretchedCarpet$Carpet;)V"⟩ ⟨"StretchedCarpet$HookOrder", "make", "(LStretchedCarpet$Room;LStretchedCarpet$Carpet;LStretchedCarpet$Carpet;)V"⟩ ∈ TB := tb_of (i := 607) (by decide +kernel) rfl
theorem tb_608 : Cond.code ⟨"StretchedCarpet$HookOrder", "make", "(LStretchedCarpet$Room;LStretchedCarpet$Carpet;LStretchedCarpet$Carpet;)V"⟩ prog_4_method_2_code 6 (Option.none : Option Jvm.ClassFile.FieldType) ∈ TB := tb_of (i := 608) (by decide +kernel) rfl
theorem tb_609 : Cond.methodLink "StretchedCarpet$HookOrder" 18 ⟨"StretchedCarpet$Carpet", "isFree", "(I)Z"⟩ ∈ TB := tb_of (i := 609) (by decide +kernel) rfl
theorem tb_610 : Cond.methodLink "StretchedCarpet$HookOrder" 24 ⟨"StretchedCarpet$HookOrder", "isOrder", "(LStretchedCarpet$Carpet;I)Z"⟩ ∈ TB := tb_of (i := 610) (by decide +kernel) rfl
theorem tb_612 : Cond.instanceMethod ⟨"StretchedCarpet$HookOrder", "isOrder", "(LStretchedCarpet$Carpet;I)Z"⟩ ∈ TB := tb_of (i := 612) (by decide +kernel) rfl
theorem tb_613 : Cond.code ⟨"StretchedCarpet$HookOrder", "isOrder", "(LStretchedCarpet$Carpet;I)Z"⟩ prog_4_method_4_code 6 (Option.some .boolean) ∈ TB := tb_of (i := 613) (by decide +kernel) rfl
theorem tb_614 : Cond.methodLink "StretchedCarpet$HookOrder" 35 ⟨"StretchedCarpet$HookOrder", "wallIn", "(II)I"⟩ ∈ TB := tb_of (i := 614) (by decide +kernel) rfl
theorem tb_616 : Cond.instanceMethod ⟨"StretchedCarpet$HookOrder", "wallIn", "(II)I"⟩ ∈ TB := tb_of (i := 616) (by decide +kernel) rfl
theorem tb_617 : Cond.code ⟨"StretchedCarpet$HookOrder", "wallIn", "(II)I"⟩ prog_4_method_3_code 3 (Option.some .int) ∈ TB := tb_of (i := 617) (by decide +kernel) rfl
theorem tb_618 : Cond.methodLink "StretchedCarpet$HookOrder" 28 ⟨"StretchedCarpet$HookOrder", "kicksOf", "(LStretchedCarpet$Room;LStretchedCarpet$Carpet;LStretchedCarpet$Carpet;I)I"⟩ ∈ TB := tb_of (i := 618) (by decide +kernel) rfl
theorem tb_620 : Cond.instanceMethod ⟨"StretchedCarpet$HookOrder", "kicksOf", "(LStretchedCarpet$Room;LStretchedCarpet$Carpet;LStretchedCarpet$Carpet;I)I"⟩ ∈ TB := tb_of (i := 620) (by decide +kernel) rfl
theorem tb_621 : Cond.code ⟨"StretchedCarpet$HookOrder", "kicksOf", "(LStretchedCarpet$Room;LStretchedCarpet$Carpet;LStretchedCarpet$Carpet;I)I"⟩ prog_4_method_5_code 10 (Option.some .int) ∈ TB := tb_of (i := 621) (by decide +kernel) rfl
theorem tb_622 : Cond.methodLink "StretchedCarpet$HookOrder" 39 ⟨"StretchedCarpet$Carpet", "copyFrom", "(LStretchedCarpet$Carpet;)V"⟩ ∈ TB := tb_of (i := 622) (by decide +kernel) rfl
theorem tb_623 : Cond.methodLink "StretchedCarpet$HookOrder" 46 ⟨"StretchedCarpet$Carpet", "leastKick", "(LStretchedCarpet$Room;II)I"⟩ ∈ TB := tb_of (i := 623) (by decide +kernel) rfl
theorem tb_624 : Cond.instanceMethod ⟨"StretchedCarpet$Carpet", "leastKick", "(LStretchedCarpet$Room;II)I"⟩ ∈ TB := tb_of (i := 624) (by decide +kernel) rfl
theorem tb_625 : Cond.selects "StretchedCarpet$Carpet" ⟨"StretchedCarpet$Carpet", "leastKick", "(LStretchedCarpet$Room;II)I"⟩ ⟨"StretchedCarpet$Carpet", "leastKick", "(LStretchedCarpet$Room;II)I"⟩ ∈ TB := tb_of (i := 625) (by decide +kernel) rfl
theorem tb_626 : Cond.code ⟨"StretchedCarpet$Carpet", "leastKick", "(LStretchedCarpet$Room;II)I"⟩ prog_2_method_18_code 6 (Option.some .int) ∈ TB := tb_of (i := 626) (by decide +kernel) rfl
theorem tb_627 : Cond.methodLink "StretchedCarpet$HookOrder" 50 ⟨"StretchedCarpet$Carpet", "hookOn", "(LStretchedCarpet$Room;II)I"⟩ ∈ TB := tb_of (i := 627) (by decide +kernel) rfl
theorem tb_628 : Cond.methodLink "StretchedCarpet" 200 ⟨"StretchedCarpet$HookOrder", "wallAt", "(I)I"⟩ ∈ TB := tb_of (i := 628) (by decide +kernel) rfl
theorem tb_629 : Cond.instanceMethod ⟨"StretchedCarpet$HookOrder", "wallAt", "(I)I"⟩ ∈ TB := tb_of (i := 629) (by decide +kernel) rfl
theorem tb_630 : Cond.selects "StretchedCarpet$HookOrder" ⟨"StretchedCarpet$HookOrder", "wallAt", "(I)I"⟩ ⟨"StretchedCarpet$HookOrder", "wallAt", "(I)I"⟩ ∈ TB := tb_of (i := 630) (by decide +kernel) rfl
theorem tb_631 : Cond.code ⟨"StretchedCarpet$HookOrder", "wallAt", "(I)I"⟩ prog_4_method_6_code 2 (Option.some .int) ∈ TB := tb_of (i := 631) (by decide +kernel) rfl
theorem tb_632 : Cond.methodLink "StretchedCarpetLaw" 72 ⟨"StretchedCarpet", "kickFor", "(II)I"⟩ ∈ TB := tb_of (i := 632) (by decide +kernel) rfl
theorem tb_633 : Cond.instanceMethod ⟨"StretchedCarpet", "kickFor", "(II)I"⟩ ∈ TB := tb_of (i := 633) (by decide +kernel) rfl
theorem tb_634 : Cond.selects "StretchedCarpet" ⟨"StretchedCarpet", "kickFor", "(II)I"⟩ ⟨"StretchedCarpet", "kickFor", "(II)I"⟩ ∈ TB := tb_of (i := 634) (by decide +kernel) rfl
theorem tb_635 : Cond.code ⟨"StretchedCarpet", "kickFor", "(II)I"⟩ prog_1_method_16_code 3 (Option.some .int) ∈ TB := tb_of (i := 635) (by decide +kernel) rfl
theorem tb_636 : Cond.methodLink "StretchedCarpet" 203 ⟨"StretchedCarpet$Carpet", "leastKick", "(LStretchedCarpet$Room;II)I"⟩ ∈ TB := tb_of (i := 636) (by decide +kernel) rfl
theorem tb_637 : Cond.methodLink "StretchedCarpetLaw" 76 ⟨"StretchedCarpet", "waves", "()I"⟩ ∈ TB := tb_of (i := 637) (by decide +kernel) rfl
theorem tb_638 : Cond.instanceMethod ⟨"StretchedCarpet", "waves", "()I"⟩ ∈ TB := tb_of (i := 638) (by decide +kernel) rfl
theorem tb_639 : Cond.selects "StretchedCarpet" ⟨"StretchedCarpet", "waves", "()I"⟩ ⟨"StretchedCarpet", "waves", "()I"⟩ ∈ TB := tb_of (i := 639) (by decide +kernel) rfl
theorem tb_640 : Cond.code ⟨"StretchedCarpet", "waves", "()I"⟩ prog_1_method_17_code 3 (Option.some .int) ∈ TB := tb_of (i := 640) (by decide +kernel) rfl
theorem tb_641 : Cond.methodLink "StretchedCarpet" 206 ⟨"StretchedCarpet$Carpet", "monthsToWave", "(LStretchedCarpet$Room;I)I"⟩ ∈ TB := tb_of (i := 641) (by decide +kernel) rfl
theorem tb_642 : Cond.instanceMethod ⟨"StretchedCarpet$Carpet", "monthsToWave", "(LStretchedCarpet$Room;I)I"⟩ ∈ TB := tb_of (i := 642) (by decide +kernel) rfl
theorem tb_643 : Cond.selects "StretchedCarpet$Carpet" ⟨"StretchedCarpet$Carpet", "monthsToWave", "(LStretchedCarpet$Room;I)I"⟩ ⟨"StretchedCarpet$Carpet", "monthsToWave", "(LStretchedCarpet$Room;I)I"⟩ ∈ TB := tb_of (i := 643) (by decide +kernel) rfl
theorem tb_644 : Cond.code ⟨"StretchedCarpet$Carpet", "monthsToWave", "(LStretchedCarpet$Room;I)I"⟩ prog_2_method_22_code 5 (Option.some .int) ∈ TB := tb_of (i := 644) (by decide +kernel) rfl
theorem tb_645 : Cond.methodLink "StretchedCarpet" 209 ⟨"java/lang/Math", "min", "(II)I"⟩ ∈ TB := tb_of (i := 645) (by decide +kernel) rfl
theorem tb_646 : Cond.methodLink "StretchedCarpetLaw" 80 ⟨"StretchedCarpet", "longest", "()I"⟩ ∈ TB := tb_of (i := 646) (by decide +kernel) rfl
theorem tb_647 : Cond.instanceMethod ⟨"StretchedCarpet", "longest", "()I"⟩ ∈ TB := tb_of (i := 647) (by decide +kernel) rfl
theorem tb_648 : Cond.selects "StretchedCarpet" ⟨"StretchedCarpet", "longest", "()I"⟩ ⟨"StretchedCarpet", "longest", "()I"⟩ ∈ TB := tb_of (i := 648) (by decide +kernel) rfl
theorem tb_649 : Cond.code ⟨"StretchedCarpet", "longest", "()I"⟩ prog_1_method_18_code 4 (Option.some .int) ∈ TB := tb_of (i := 649) (by decide +kernel) rfl
theorem tb_650 : Cond.methodLink "StretchedCarpetLaw" 84 ⟨"StretchedCarpet", "seen", "(II)I"⟩ ∈ TB := tb_of (i := 650) (by decide +kernel) rfl
theorem tb_651 : Cond.instanceMethod ⟨"StretchedCarpet", "seen", "(II)I"⟩ ∈ TB := tb_of (i := 651) (by decide +kernel) rfl
theorem tb_652 : Cond.selects "StretchedCarpet" ⟨"StretchedCarpet", "seen", "(II)I"⟩ ⟨"StretchedCarpet", "seen", "(II)I"⟩ ∈ TB := tb_of (i := 652) (by decide +kernel) rfl
theorem tb_653 : Cond.code ⟨"StretchedCarpet", "seen", "(II)I"⟩ prog_1_method_19_code 3 (Option.some .int) ∈ TB := tb_of (i := 653) (by decide +kernel) rfl
theorem tb_654 : Cond.methodLink "StretchedCarpet" 215 ⟨"StretchedCarpet$Sightings", "add", "(II)Z"⟩ ∈ TB := tb_of (i := 654) (by decide +kernel) rfl
theorem tb_655 : Cond.instanceMethod ⟨"StretchedCarpet$Sightings", "add", "(II)Z"⟩ ∈ TB := tb_of (i := 655) (by decide +kernel) rfl
theorem tb_656 : Cond.selects "StretchedCarpet$Sightings" ⟨"StretchedCarpet$Sightings", "add", "(II)Z"⟩ ⟨"StretchedCarpet$Sightings", "add", "(II)Z"⟩ ∈ TB := tb_of (i := 656) (by decide +kernel) rfl
theorem tb_657 : Cond.code ⟨"StretchedCarpet$Sightings", "add", "(II)Z"⟩ prog_7_method_3_code 3 (Option.some .boolean) ∈ TB := tb_of (i := 657) (by decide +kernel) rfl
theorem tb_658 : Cond.methodLinkNest "StretchedCarpet$Sightings" 25 ⟨"StretchedCarpet", "put", "([III)V"⟩ "StretchedCarpet" ∈ NB := nb_of (i := 658) (by decide +kernel) rfl
theorem tb_659 : Cond.methodLink "StretchedCarpetLaw" 88 ⟨"StretchedCarpet", "forget", "()I"⟩ ∈ TB := tb_of (i := 659) (by decide +kernel) rfl
theorem tb_660 : Cond.instanceMethod ⟨"StretchedCarpet", "forget", "()I"⟩ ∈ TB := tb_of (i := 660) (by decide +kernel) rfl
theorem tb_661 : Cond.selects "StretchedCarpet" ⟨"StretchedCarpet", "forget", "()I"⟩ ⟨"StretchedCarpet", "forget", "()I"⟩ ∈ TB := tb_of (i := 661) (by decide +kernel) rfl
theorem tb_662 : Cond.code ⟨"StretchedCarpet", "forget", "()I"⟩ prog_1_method_20_code 2 (Option.some .int) ∈ TB := tb_of (i := 662) (by decide +kernel) rfl
theorem tb_663 : Cond.methodLink "StretchedCarpetLaw" 92 ⟨"StretchedCarpet", "may", "(I)I"⟩ ∈ TB := tb_of (i := 663) (by decide +kernel) rfl
theorem tb_664 : Cond.instanceMethod ⟨"StretchedCarpet", "may", "(I)I"⟩ ∈ TB := tb_of (i := 664) (by decide +kernel) rfl
theorem tb_665 : Cond.selects "StretchedCarpet" ⟨"StretchedCarpet", "may", "(I)I"⟩ ⟨"StretchedCarpet", "may", "(I)I"⟩ ∈ TB := tb_of (i := 665) (by decide +kernel) rfl
theorem tb_666 : Cond.code ⟨"StretchedCarpet", "may", "(I)I"⟩ prog_1_method_21_code 2 (Option.some .int) ∈ TB := tb_of (i := 666) (by decide +kernel) rfl
theorem tb_667 : Cond.methodLink "StretchedCarpet" 223 ⟨"StretchedCarpet$Sightings", "kindsFor", "(I)I"⟩ ∈ TB := tb_of (i := 667) (by decide +kernel) rfl
theorem tb_668 : Cond.instanceMethod ⟨"StretchedCarpet$Sightings", "kindsFor", "(I)I"⟩ ∈ TB := tb_of (i := 668) (by decide +kernel) rfl
theorem tb_669 : Cond.selects "StretchedCarpet$Sightings" ⟨"StretchedCarpet$Sightings", "kindsFor", "(I)I"⟩ ⟨"StretchedCarpet$Sightings", "kindsFor", "(I)I"⟩ ∈ TB := tb_of (i := 669) (by decide +kernel) rfl
theorem tb_670 : Cond.code ⟨"StretchedCarpet$Sightings", "kindsFor", "(I)I"⟩ prog_7_method_4_code 4 (Option.some .int) ∈ TB := tb_of (i := 670) (by decide +kernel) rfl
theorem tb_671 : Cond.methodLink "StretchedCarpet$Sightings" 29 ⟨"StretchedCarpet$Sightings", "explainedBy", "(II)Z"⟩ ∈ TB := tb_of (i := 671) (by decide +kernel) rfl
theorem tb_673 : Cond.instanceMethod ⟨"StretchedCarpet$Sightings", "explainedBy", "(II)Z"⟩ ∈ TB := tb_of (i := 673) (by decide +kernel) rfl
theorem tb_674 : Cond.code ⟨"StretchedCarpet$Sightings", "explainedBy", "(II)Z"⟩ prog_7_method_6_code 5 (Option.some .boolean) ∈ TB := tb_of (i := 674) (by decide +kernel) rfl
theorem tb_675 : Cond.methodLinkNest "StretchedCarpet$Sightings" 33 ⟨"StretchedCarpet", "slackOf", "(III)I"⟩ "StretchedCarpet" ∈ NB := nb_of (i := 675) (by decide +kernel) rfl
theorem tb_676 : Cond.methodLinkNest "StretchedCarpet$Sightings" 37 ⟨"StretchedCarpet", "at", "([II)I"⟩ "StretchedCarpet" ∈ NB := nb_of (i := 676) (by decide +kernel) rfl
theorem tb_677 : Cond.methodLink "StretchedCarpet$Sightings" 41 ⟨"java/lang/Math", "max", "(II)I"⟩ ∈ TB := tb_of (i := 677) (by decide +kernel) rfl
theorem tb_678 : Cond.methodLink "StretchedCarpet" 229 ⟨"StretchedCarpet$Sightings", "givesFor", "(I)I"⟩ ∈ TB := tb_of (i := 678) (by decide +kernel) rfl
theorem tb_679 : Cond.instanceMethod ⟨"StretchedCarpet$Sightings", "givesFor", "(I)I"⟩ ∈ TB := tb_of (i := 679) (by decide +kernel) rfl
theorem tb_680 : Cond.selects "StretchedCarpet$Sightings" ⟨"StretchedCarpet$Sightings", "givesFor", "(I)I"⟩ ⟨"StretchedCarpet$Sightings", "givesFor", "(I)I"⟩ ∈ TB := tb_of (i := 680) (by decide +kernel) rfl
theorem tb_681 : Cond.code ⟨"StretchedCarpet$Sightings", "givesFor", "(I)I"⟩ prog_7_method_5_code 4 (Option.some .int) ∈ TB := tb_of (i := 681) (by decide +kernel) rfl
theorem tb_682 : Cond.methodLink "StretchedCarpetLaw" 96 ⟨"StretchedCarpet", "hall", "(II)I"⟩ ∈ TB := tb_of (i := 682) (by decide +kernel) rfl
theorem tb_683 : Cond.instanceMethod ⟨"StretchedCarpet", "hall", "(II)I"⟩ ∈ TB := tb_of (i := 683) (by decide +kernel) rfl
theorem tb_684 : Cond.selects "StretchedCarpet" ⟨"StretchedCarpet", "hall", "(II)I"⟩ ⟨"StretchedCarpet", "hall", "(II)I"⟩ ∈ TB := tb_of (i := 684) (by decide +kernel) rfl
theorem tb_685 : Cond.code ⟨"StretchedCarpet", "hall", "(II)I"⟩ prog_1_method_22_code 3 (Option.some .int) ∈ TB := tb_of (i := 685) (by decide +kernel) rfl
theorem tb_686 : Cond.methodLink "StretchedCarpet" 232 ⟨"StretchedCarpet$Carpet", "hasRestFor", "(LStretchedCarpet$Room;II)Z"⟩ ∈ TB := tb_of (i := 686) (by decide +kernel) rfl
theorem tb_687 : Cond.instanceMethod ⟨"StretchedCarpet$Carpet", "hasRestFor", "(LStretchedCarpet$Room;II)Z"⟩ ∈ TB := tb_of (i := 687) (by decide +kernel) rfl
theorem tb_688 : Cond.selects "StretchedCarpet$Carpet" ⟨"StretchedCarpet$Carpet", "hasRestFor", "(LStretchedCarpet$Room;II)Z"⟩ ⟨"StretchedCarpet$Carpet", "hasRestFor", "(LStretchedCarpet$Room;II)Z"⟩ ∈ TB := tb_of (i := 688) (by decide +kernel) rfl
theorem tb_689 : Cond.code ⟨"StretchedCarpet$Carpet", "hasRestFor", "(LStretchedCarpet$Room;II)Z"⟩ prog_2_method_9_code 7 (Option.some .boolean) ∈ TB := tb_of (i := 689) (by decide +kernel) rfl
theorem tb_690 : Cond.methodLink "StretchedCarpetLaw" 100 ⟨"StretchedCarpet", "left", "(I)I"⟩ ∈ TB := tb_of (i := 690) (by decide +kernel) rfl
theorem tb_691 : Cond.instanceMethod ⟨"StretchedCarpet", "left", "(I)I"⟩ ∈ TB := tb_of (i := 691) (by decide +kernel) rfl
theorem tb_692 : Cond.selects "StretchedCarpet" ⟨"StretchedCarpet", "left", "(I)I"⟩ ⟨"StretchedCarpet", "left", "(I)I"⟩ ∈ TB := tb_of (i := 692) (by decide +kernel) rfl
theorem tb_693 : Cond.code ⟨"StretchedCarpet", "left", "(I)I"⟩ prog_1_method_23_code 2 (Option.some .int) ∈ TB := tb_of (i := 693) (by decide +kernel) rfl
theorem tb_694 : Cond.methodLink "StretchedCarpet" 242 ⟨"StretchedCarpet$Carpet", "areaOfRests", "(LStretchedCarpet$Room;)I"⟩ ∈ TB := tb_of (i := 694) (by decide +kernel) rfl
theorem tb_695 : Cond.instanceMethod ⟨"StretchedCarpet$Carpet", "areaOfRests", "(LStretchedCarpet$Room;)I"⟩ ∈ TB := tb_of (i := 695) (by decide +kernel) rfl
theorem tb_696 : Cond.selects "StretchedCarpet$Carpet" ⟨"StretchedCarpet$Carpet", "areaOfRests", "(LStretchedCarpet$Room;)I"⟩ ⟨"StretchedCarpet$Carpet", "areaOfRests", "(LStretchedCarpet$Room;)I"⟩ ∈ TB := tb_of (i := 696) (by decide +kernel) rfl
theorem tb_697 : Cond.code ⟨"StretchedCarpet$Carpet", "areaOfRests", "(LStretchedCarpet$Room;)I"⟩ prog_2_method_10_code 6 (Option.some .int) ∈ TB := tb_of (i := 697) (by decide +kernel) rfl
theorem tb_698 : Cond.methodLink "StretchedCarpetLaw" 104 ⟨"StretchedCarpet", "likely", "(IIII)I"⟩ ∈ TB := tb_of (i := 698) (by decide +kernel) rfl
theorem tb_699 : Cond.instanceMethod ⟨"StretchedCarpet", "likely", "(IIII)I"⟩ ∈ TB := tb_of (i := 699) (by decide +kernel) rfl
theorem tb_700 : Cond.selects "StretchedCarpet" ⟨"StretchedCarpet", "likely", "(IIII)I"⟩ ⟨"StretchedCarpet", "likely", "(IIII)I"⟩ ∈ TB := tb_of (i := 700) (by decide +kernel) rfl
theorem tb_701 : Cond.code ⟨"StretchedCarpet", "likely", "(IIII)I"⟩ prog_1_method_24_code 8 (Option.some .int) ∈ TB := tb_of (i := 701) (by decide +kernel) rfl
theorem tb_702 : Cond.methodLink "StretchedCarpet" 246 ⟨"StretchedCarpet", "waysToWave", "(III)I"⟩ ∈ TB := tb_of (i := 702) (by decide +kernel) rfl
theorem tb_703 : Cond.static ⟨"StretchedCarpet", "waysToWave", "(III)I"⟩ ∈ TB := tb_of (i := 703) (by decide +kernel) rfl
theorem tb_704 : Cond.code ⟨"StretchedCarpet", "waysToWave", "(III)I"⟩ prog_1_method_36_code 6 (Option.some .int) ∈ TB := tb_of (i := 704) (by decide +kernel) rfl
theorem tb_705 : Cond.methodLink "StretchedCarpet" 284 ⟨"java/lang/Math", "max", "(II)I"⟩ ∈ TB := tb_of (i := 705) (by decide +kernel) rfl
theorem tb_706 : Cond.methodLink "StretchedCarpet" 250 ⟨"StretchedCarpet", "power", "(II)I"⟩ ∈ TB := tb_of (i := 706) (by decide +kernel) rfl
theorem tb_707 : Cond.static ⟨"StretchedCarpet", "power", "(II)I"⟩ ∈ TB := tb_of (i := 707) (by decide +kernel) rfl
theorem tb_708 : Cond.code ⟨"StretchedCarpet", "power", "(II)I"⟩ prog_1_method_34_code 4 (Option.some .int) ∈ TB := tb_of (i := 708) (by decide +kernel) rfl
theorem tb_709 : Cond.methodLink "StretchedCarpet" 253 ⟨"StretchedCarpet", "commonDivisor", "(II)I"⟩ ∈ TB := tb_of (i := 709) (by decide +kernel) rfl
theorem tb_710 : Cond.static ⟨"StretchedCarpet", "commonDivisor", "(II)I"⟩ ∈ TB := tb_of (i := 710) (by decide +kernel) rfl
theorem tb_711 : Cond.code ⟨"StretchedCarpet", "commonDivisor", "(II)I"⟩ prog_1_method_35_code 6 (Option.some .int) ∈ TB := tb_of (i := 711) (by decide +kernel) rfl
theorem tb_712 : Cond.methodLink "StretchedCarpetLaw" 109 ⟨"StretchedCarpet", "year", "(III)I"⟩ ∈ TB := tb_of (i := 712) (by decide +kernel) rfl
theorem tb_713 : Cond.instanceMethod ⟨"StretchedCarpet", "year", "(III)I"⟩ ∈ TB := tb_of (i := 713) (by decide +kernel) rfl
theorem tb_714 : Cond.selects "StretchedCarpet" ⟨"StretchedCarpet", "year", "(III)I"⟩ ⟨"StretchedCarpet", "year", "(III)I"⟩ ∈ TB := tb_of (i := 714) (by decide +kernel) rfl
theorem tb_715 : Cond.code ⟨"StretchedCarpet", "year", "(III)I"⟩ prog_1_method_25_code 5 (Option.some .int) ∈ TB := tb_of (i := 715) (by decide +kernel) rfl
theorem tb_716 : Cond.methodLink "StretchedCarpet" 256 ⟨"StretchedCarpet$Carpet", "copyFrom", "(LStretchedCarpet$Carpet;)V"⟩ ∈ TB := tb_of (i := 716) (by decide +kernel) rfl
theorem tb_717 : Cond.methodLink "StretchedCarpet" 259 ⟨"StretchedCarpet", "draw", "(II)I"⟩ ∈ TB := tb_of (i := 717) (by decide +kernel) rfl
theorem tb_718 : Cond.static ⟨"StretchedCarpet", "draw", "(II)I"⟩ ∈ TB := tb_of (i := 718) (by decide +kernel) rfl
theorem tb_719 : Cond.code ⟨"StretchedCarpet", "draw", "(II)I"⟩ prog_1_method_37_code 4 (Option.some .int) ∈ TB := tb_of (i := 719) (by decide +kernel) rfl
theorem tb_720 : Cond.constantLong "StretchedCarpet" 290 (lI (7919)) ∈ TB := tb_of (i := 720) (by decide +kernel) rfl
theorem tb_721 : Cond.constantLong "StretchedCarpet" 292 (lI (6151)) ∈ TB := tb_of (i := 721) (by decide +kernel) rfl
theorem tb_722 : Cond.constantLong "StretchedCarpet" 294 (lI (65521)) ∈ TB := tb_of (i := 722) (by decide +kernel) rfl
theorem tb_723 : Cond.constantLong "StretchedCarpet" 296 (lI (2)) ∈ TB := tb_of (i := 723) (by decide +kernel) rfl
theorem tb_724 : Cond.methodLink "StretchedCarpet" 262 ⟨"StretchedCarpet$Carpet", "takeStep", "(LStretchedCarpet$Room;I)V"⟩ ∈ TB := tb_of (i := 724) (by decide +kernel) rfl
theorem tb_725 : Cond.instanceMethod ⟨"StretchedCarpet$Carpet", "takeStep", "(LStretchedCarpet$Room;I)V"⟩ ∈ TB := tb_of (i := 725) (by decide +kernel) rfl
theorem tb_726 : Cond.selects "StretchedCarpet$Carpet" ⟨"StretchedCarpet$Carpet", "takeStep", "(LStretchedCarpet$Room;I)V"⟩ ⟨"StretchedCarpet$Carpet", "takeStep", "(LStretchedCarpet$Room;I)V"⟩ ∈ TB := tb_of (i := 726) (by decide +kernel) rfl
theorem tb_727 : Cond.code ⟨"StretchedCarpet$Carpet", "takeStep", "(LStretchedCarpet$Room;I)V"⟩ prog_2_method_23_code 4 (Option.none : Option Jvm.ClassFile.FieldType) ∈ TB := tb_of (i := 727) (by decide +kernel) rfl
theorem tb_728 : Cond.methodLink "StretchedCarpet$Carpet" 109 ⟨"StretchedCarpet$Carpet", "unhook", "(I)I"⟩ ∈ TB := tb_of (i := 728) (by decide +kernel) rfl
theorem tb_729 : Cond.methodLink "StretchedCarpet$Carpet" 112 ⟨"StretchedCarpet$Carpet", "isFree", "(I)Z"⟩ ∈ TB := tb_of (i := 729) (by decide +kernel) rfl
theorem tb_730 : Cond.methodLink "StretchedCarpet$Carpet" 115 ⟨"StretchedCarpet$Carpet", "hookOn", "(LStretchedCarpet$Room;II)I"⟩ ∈ TB := tb_of (i := 730) (by decide +kernel) rfl
theorem tb_731 : Cond.methodLink "StretchedCarpet$Carpet" 118 ⟨"StretchedCarpet$Carpet", "passMonth", "(LStretchedCarpet$Room;)V"⟩ ∈ TB := tb_of (i := 731) (by decide +kernel) rfl
theorem tb_732 : Cond.methodLink "StretchedCarpet" 269 ⟨"java/lang/Integer", "bitCount", "(I)I"⟩ ∈ TB := tb_of (i := 732) (by decide +kernel) rfl
theorem tb_733 : Cond.methodLink "StretchedCarpet" 274 ⟨"StretchedCarpet$Carpet", "tightnessInAll", "()I"⟩ ∈ TB := tb_of (i := 733) (by decide +kernel) rfl
theorem tb_734 : Cond.instanceMethod ⟨"StretchedCarpet$Carpet", "tightnessInAll", "()I"⟩ ∈ TB := tb_of (i := 734) (by decide +kernel) rfl
theorem tb_735 : Cond.selects "StretchedCarpet$Carpet" ⟨"StretchedCarpet$Carpet", "tightnessInAll", "()I"⟩ ⟨"StretchedCarpet$Carpet", "tightnessInAll", "()I"⟩ ∈ TB := tb_of (i := 735) (by decide +kernel) rfl
theorem tb_736 : Cond.code ⟨"StretchedCarpet$Carpet", "tightnessInAll", "()I"⟩ prog_2_method_16_code 3 (Option.some .int) ∈ TB := tb_of (i := 736) (by decide +kernel) rfl
theorem tb_737 : Cond.methodLink "StretchedCarpetLaw" 114 ⟨"StretchedCarpet", "keep", "()I"⟩ ∈ TB := tb_of (i := 737) (by decide +kernel) rfl
theorem tb_738 : Cond.instanceMethod ⟨"StretchedCarpet", "keep", "()I"⟩ ∈ TB := tb_of (i := 738) (by decide +kernel) rfl
theorem tb_739 : Cond.selects "StretchedCarpet" ⟨"StretchedCarpet", "keep", "()I"⟩ ⟨"StretchedCarpet", "keep", "()I"⟩ ∈ TB := tb_of (i := 739) (by decide +kernel) rfl
theorem tb_740 : Cond.code ⟨"StretchedCarpet", "keep", "()I"⟩ prog_1_method_26_code 1 (Option.some .int) ∈ TB := tb_of (i := 740) (by decide +kernel) rfl
theorem tb_741 : Cond.methodLink "StretchedCarpet" 277 ⟨"StretchedCarpet$Shelf", "isFull", "()Z"⟩ ∈ TB := tb_of (i := 741) (by decide +kernel) rfl
theorem tb_742 : Cond.instanceMethod ⟨"StretchedCarpet$Shelf", "isFull", "()Z"⟩ ∈ TB := tb_of (i := 742) (by decide +kernel) rfl
theorem tb_743 : Cond.selects "StretchedCarpet$Shelf" ⟨"StretchedCarpet$Shelf", "isFull", "()Z"⟩ ⟨"StretchedCarpet$Shelf", "isFull", "()Z"⟩ ∈ TB := tb_of (i := 743) (by decide +kernel) rfl
theorem tb_744 : Cond.code ⟨"StretchedCarpet$Shelf", "isFull", "()Z"⟩ prog_6_method_3_code 1 (Option.some .boolean) ∈ TB := tb_of (i := 744) (by decide +kernel) rfl
theorem tb_745 : Cond.methodLink "StretchedCarpetLaw" 118 ⟨"StretchedCarpet", "back", "()I"⟩ ∈ TB := tb_of (i := 745) (by decide +kernel) rfl
theorem tb_746 : Cond.instanceMethod ⟨"StretchedCarpet", "back", "()I"⟩ ∈ TB := tb_of (i := 746) (by decide +kernel) rfl
theorem tb_747 : Cond.selects "StretchedCarpet" ⟨"StretchedCarpet", "back", "()I"⟩ ⟨"StretchedCarpet", "back", "()I"⟩ ∈ TB := tb_of (i := 747) (by decide +kernel) rfl
theorem tb_748 : Cond.code ⟨"StretchedCarpet", "back", "()I"⟩ prog_1_method_27_code 1 (Option.some .int) ∈ TB := tb_of (i := 748) (by decide +kernel) rfl
theorem tb_749 : Cond.methodLink "StretchedCarpetLaw" 122 ⟨"StretchedCarpet", "count", "(I)I"⟩ ∈ TB := tb_of (i := 749) (by decide +kernel) rfl
theorem tb_750 : Cond.instanceMethod ⟨"StretchedCarpet", "count", "(I)I"⟩ ∈ TB := tb_of (i := 750) (by decide +kernel) rfl
theorem tb_751 : Cond.selects "StretchedCarpet" ⟨"StretchedCarpet", "count", "(I)I"⟩ ⟨"StretchedCarpet", "count", "(I)I"⟩ ∈ TB := tb_of (i := 751) (by decide +kernel) rfl
theorem tb_752 : Cond.code ⟨"StretchedCarpet", "count", "(I)I"⟩ prog_1_method_28_code 2 (Option.some .int) ∈ TB := tb_of (i := 752) (by decide +kernel) rfl
theorem tb_753 : Cond.classLink "StretchedCarpetLaw" 10 "StretchedCarpetModel" ∈ TB := tb_of (i := 753) (by decide +kernel) rfl
theorem tb_754 : Cond.instantiable "StretchedCarpetModel" 27 ∈ TB := tb_of (i := 754) (by decide +kernel) rfl
theorem tb_755 : Cond.methodLink "StretchedCarpetLaw" 12 ⟨"StretchedCarpetModel", "<init>", "()V"⟩ ∈ TB := tb_of (i := 755) (by decide +kernel) rfl
theorem tb_756 : Cond.instanceMethod ⟨"StretchedCarpetModel", "<init>", "()V"⟩ ∈ TB := tb_of (i := 756) (by decide +kernel) rfl
theorem tb_757 : Cond.code ⟨"StretchedCarpetModel", "<init>", "()V"⟩ prog_9_method_1_code 1 (Option.none : Option Jvm.ClassFile.FieldType) ∈ TB := tb_of (i := 757) (by decide +kernel) rfl
theorem tb_758 : Cond.methodLink "StretchedCarpetModel" 1 ⟨"java/lang/Object", "<init>", "()V"⟩ ∈ TB := tb_of (i := 758) (by decide +kernel) rfl
theorem tb_759 : Cond.methodLink "StretchedCarpetModel" 52 ⟨"StretchedCarpetModel", "addStrip", "(IIII)V"⟩ ∈ TB := tb_of (i := 759) (by decide +kernel) rfl
theorem tb_761 : Cond.instanceMethod ⟨"StretchedCarpetModel", "addStrip", "(IIII)V"⟩ ∈ TB := tb_of (i := 761) (by decide +kernel) rfl
theorem tb_762 : Cond.code ⟨"StretchedCarpetModel", "addStrip", "(IIII)V"⟩ prog_9_method_2_code 5 (Option.none : Option Jvm.ClassFile.FieldType) ∈ TB := tb_of (i := 762) (by decide +kernel) rfl
theorem tb_763 : Cond.fieldLink "StretchedCarpetModel" 67 "StretchedCarpetModel" "letters" "I" ∈ TB := tb_of (i := 763) (by decide +kernel) rfl
theorem tb_764 : Cond.fieldLink "StretchedCarpetModel" 7 "StretchedCarpetModel" "text" "[I" ∈ TB := tb_of (i := 764) (by decide +kernel) rfl
theorem tb_765 : Cond.fieldLink "StretchedCarpetModel" 73 "StretchedCarpetModel" "position" "I" ∈ TB := tb_of (i := 765) (by decide +kernel) rfl
theorem tb_766 : Cond.fieldLink "StretchedCarpetModel" 70 "StretchedCarpetModel" "number" "I" ∈ TB := tb_of (i := 766) (by decide +kernel) rfl
theorem tb_767 : Cond.fieldLink "StretchedCarpetModel" 80 "StretchedCarpetModel" "readMany" "I" ∈ TB := tb_of (i := 767) (by decide +kernel) rfl
theorem tb_768 : Cond.fieldLink "StretchedCarpetModel" 86 "StretchedCarpetModel" "readDamps" "I" ∈ TB := tb_of (i := 768) (by decide +kernel) rfl
theorem tb_769 : Cond.fieldLink "StretchedCarpetModel" 13 "StretchedCarpetModel" "readStrip" "[I" ∈ TB := tb_of (i := 769) (by decide +kernel) rfl
theorem tb_770 : Cond.fieldLink "StretchedCarpetModel" 16 "StretchedCarpetModel" "readDamp" "[I" ∈ TB := tb_of (i := 770) (by decide +kernel) rfl
theorem tb_771 : Cond.fieldLink "StretchedCarpetModel" 19 "StretchedCarpetModel" "readLaw" "[I" ∈ TB := tb_of (i := 771) (by decide +kernel) rfl
theorem tb_772 : Cond.fieldLink "StretchedCarpetModel" 56 "StretchedCarpetModel" "many" "I" ∈ TB := tb_of (i := 772) (by decide +kernel) rfl
theorem tb_773 : Cond.fieldLink "StretchedCarpetModel" 60 "StretchedCarpetModel" "damps" "I" ∈ TB := tb_of (i := 773) (by decide +kernel) rfl
theorem tb_774 : Cond.fieldLink "StretchedCarpetModel" 22 "StretchedCarpetModel" "strip" "[I" ∈ TB := tb_of (i := 774) (by decide +kernel) rfl
theorem tb_775 : Cond.fieldLink "StretchedCarpetModel" 25 "StretchedCarpetModel" "dampOf" "[I" ∈ TB := tb_of (i := 775) (by decide +kernel) rfl
theorem tb_776 : Cond.fieldLink "StretchedCarpetModel" 28 "StretchedCarpetModel" "law" "[I" ∈ TB := tb_of (i := 776) (by decide +kernel) rfl
theorem tb_777 : Cond.fieldLink "StretchedCarpetModel" 31 "StretchedCarpetModel" "now" "[I" ∈ TB := tb_of (i := 777) (by decide +kernel) rfl
theorem tb_778 : Cond.fieldLink "StretchedCarpetModel" 34 "StretchedCarpetModel" "tried" "[I" ∈ TB := tb_of (i := 778) (by decide +kernel) rfl
theorem tb_779 : Cond.fieldLink "StretchedCarpetModel" 37 "StretchedCarpetModel" "backOf" "[I" ∈ TB := tb_of (i := 779) (by decide +kernel) rfl
theorem tb_780 : Cond.fieldLink "StretchedCarpetModel" 117 "StretchedCarpetModel" "backs" "I" ∈ TB := tb_of (i := 780) (by decide +kernel) rfl
theorem tb_781 : Cond.fieldLink "StretchedCarpetModel" 40 "StretchedCarpetModel" "kept" "[I" ∈ TB := tb_of (i := 781) (by decide +kernel) rfl
theorem tb_782 : Cond.fieldLink "StretchedCarpetModel" 120 "StretchedCarpetModel" "keptMany" "I" ∈ TB := tb_of (i := 782) (by decide +kernel) rfl
theorem tb_783 : Cond.fieldLink "StretchedCarpetModel" 114 "StretchedCarpetModel" "sights" "I" ∈ TB := tb_of (i := 783) (by decide +kernel) rfl
theorem tb_784 : Cond.fieldLink "StretchedCarpetModel" 43 "StretchedCarpetModel" "sight" "[I" ∈ TB := tb_of (i := 784) (by decide +kernel) rfl
theorem tb_785 : Cond.fieldLink "StretchedCarpetModel" 46 "StretchedCarpetModel" "row" "[I" ∈ TB := tb_of (i := 785) (by decide +kernel) rfl
theorem tb_786 : Cond.fieldLink "StretchedCarpetModel" 49 "StretchedCarpetModel" "bestRow" "[I" ∈ TB := tb_of (i := 786) (by decide +kernel) rfl
theorem tb_787 : Cond.fieldLink "StretchedCarpetModel" 193 "StretchedCarpetModel" "bestMany" "I" ∈ TB := tb_of (i := 787) (by decide +kernel) rfl
theorem tb_788 : Cond.fieldLink "StretchedCarpetModel" 183 "StretchedCarpetModel" "bestCut" "I" ∈ TB := tb_of (i := 788) (by decide +kernel) rfl
theorem tb_789 : Cond.fieldLink "StretchedCarpetModel" 186 "StretchedCarpetModel" "bestSeams" "I" ∈ TB := tb_of (i := 789) (by decide +kernel) rfl
theorem tb_845 : Cond.methodLink "StretchedCarpetLaw" 17 ⟨"StretchedCarpetModel", "write", "(I)I"⟩ ∈ TB := tb_of (i := 845) (by decide +kernel) rfl
theorem tb_846 : Cond.instanceMethod ⟨"StretchedCarpetModel", "write", "(I)I"⟩ ∈ TB := tb_of (i := 846) (by decide +kernel) rfl
theorem tb_847 : Cond.selects "StretchedCarpetModel" ⟨"StretchedCarpetModel", "write", "(I)I"⟩ ⟨"StretchedCarpetModel", "write", "(I)I"⟩ ∈ TB := tb_of (i := 847) (by decide +kernel) rfl
theorem tb_848 : Cond.code ⟨"StretchedCarpetModel", "write", "(I)I"⟩ prog_9_method_7_code 2 (Option.some .int) ∈ TB := tb_of (i := 848) (by decide +kernel) rfl
theorem tb_849 : Cond.methodLink "StretchedCarpetModel" 63 ⟨"StretchedCarpetModel", "in", "(III)Z"⟩ ∈ TB := tb_of (i := 849) (by decide +kernel) rfl
theorem tb_850 : Cond.static ⟨"StretchedCarpetModel", "in", "(III)Z"⟩ ∈ TB := tb_of (i := 850) (by decide +kernel) rfl
theorem tb_851 : Cond.code ⟨"StretchedCarpetModel", "in", "(III)Z"⟩ prog_9_method_3_code 3 (Option.some .boolean) ∈ TB := tb_of (i := 851) (by decide +kernel) rfl
theorem tb_852 : Cond.methodLink "StretchedCarpetLaw" 22 ⟨"StretchedCarpetModel", "wipe", "()I"⟩ ∈ TB := tb_of (i := 852) (by decide +kernel) rfl
theorem tb_853 : Cond.instanceMethod ⟨"StretchedCarpetModel", "wipe", "()I"⟩ ∈ TB := tb_of (i := 853) (by decide +kernel) rfl
theorem tb_854 : Cond.selects "StretchedCarpetModel" ⟨"StretchedCarpetModel", "wipe", "()I"⟩ ⟨"StretchedCarpetModel", "wipe", "()I"⟩ ∈ TB := tb_of (i := 854) (by decide +kernel) rfl
theorem tb_855 : Cond.code ⟨"StretchedCarpetModel", "wipe", "()I"⟩ prog_9_method_8_code 2 (Option.some .int) ∈ TB := tb_of (i := 855) (by decide +kernel) rfl
theorem tb_856 : Cond.methodLink "StretchedCarpetLaw" 26 ⟨"StretchedCarpetModel", "fault", "()I"⟩ ∈ TB := tb_of (i := 856) (by decide +kernel) rfl
theorem tb_857 : Cond.instanceMethod ⟨"StretchedCarpetModel", "fault", "()I"⟩ ∈ TB := tb_of (i := 857) (by decide +kernel) rfl
theorem tb_858 : Cond.selects "StretchedCarpetModel" ⟨"StretchedCarpetModel", "fault", "()I"⟩ ⟨"StretchedCarpetModel", "fault", "()I"⟩ ∈ TB := tb_of (i := 858) (by decide +kernel) rfl
theorem tb_859 : Cond.code ⟨"StretchedCarpetModel", "fault", "()I"⟩ prog_9_method_16_code 2 (Option.some .int) ∈ TB := tb_of (i := 859) (by decide +kernel) rfl
theorem tb_860 : Cond.methodLink "StretchedCarpetModel" 103 ⟨"StretchedCarpetModel", "isItem", "()Z"⟩ ∈ TB := tb_of (i := 860) (by decide +kernel) rfl
theorem tb_862 : Cond.instanceMethod ⟨"StretchedCarpetModel", "isItem", "()Z"⟩ ∈ TB := tb_of (i := 862) (by decide +kernel) rfl
theorem tb_863 : Cond.code ⟨"StretchedCarpetModel", "isItem", "()Z"⟩ prog_9_method_15_code 2 (Option.some .boolean) ∈ TB := tb_of (i := 863) (by decide +kernel) rfl
theorem tb_864 : Cond.methodLink "StretchedCarpetModel" 76 ⟨"StretchedCarpetModel", "letterAt", "(I)I"⟩ ∈ TB := tb_of (i := 864) (by decide +kernel) rfl
theorem tb_866 : Cond.instanceMethod ⟨"StretchedCarpetModel", "letterAt", "(I)I"⟩ ∈ TB := tb_of (i := 866) (by decide +kernel) rfl
theorem tb_867 : Cond.code ⟨"StretchedCarpetModel", "letterAt", "(I)I"⟩ prog_9_method_9_code 2 (Option.some .int) ∈ TB := tb_of (i := 867) (by decide +kernel) rfl
theorem tb_868 : Cond.methodLink "StretchedCarpetModel" 89 ⟨"StretchedCarpetModel", "isStripItem", "()Z"⟩ ∈ TB := tb_of (i := 868) (by decide +kernel) rfl
theorem tb_870 : Cond.instanceMethod ⟨"StretchedCarpetModel", "isStripItem", "()Z"⟩ ∈ TB := tb_of (i := 870) (by decide +kernel) rfl
theorem tb_871 : Cond.code ⟨"StretchedCarpetModel", "isStripItem", "()Z"⟩ prog_9_method_11_code 3 (Option.some .boolean) ∈ TB := tb_of (i := 871) (by decide +kernel) rfl
theorem tb_872 : Cond.methodLink "StretchedCarpetModel" 83 ⟨"StretchedCarpetModel", "isNumber", "(III)Z"⟩ ∈ TB := tb_of (i := 872) (by decide +kernel) rfl
theorem tb_874 : Cond.instanceMethod ⟨"StretchedCarpetModel", "isNumber", "(III)Z"⟩ ∈ TB := tb_of (i := 874) (by decide +kernel) rfl
theorem tb_875 : Cond.code ⟨"StretchedCarpetModel", "isNumber", "(III)Z"⟩ prog_9_method_10_code 5 (Option.some .boolean) ∈ TB := tb_of (i := 875) (by decide +kernel) rfl
theorem tb_876 : Cond.methodLink "StretchedCarpetModel" 93 ⟨"StretchedCarpetModel", "isPair", "(IIIII)Z"⟩ ∈ TB := tb_of (i := 876) (by decide +kernel) rfl
theorem tb_878 : Cond.instanceMethod ⟨"StretchedCarpetModel", "isPair", "(IIIII)Z"⟩ ∈ TB := tb_of (i := 878) (by decide +kernel) rfl
theorem tb_879 : Cond.code ⟨"StretchedCarpetModel", "isPair", "(IIIII)Z"⟩ prog_9_method_13_code 7 (Option.some .boolean) ∈ TB := tb_of (i := 879) (by decide +kernel) rfl
theorem tb_880 : Cond.methodLink "StretchedCarpetModel" 97 ⟨"StretchedCarpetModel", "isOne", "(III)Z"⟩ ∈ TB := tb_of (i := 880) (by decide +kernel) rfl
theorem tb_882 : Cond.instanceMethod ⟨"StretchedCarpetModel", "isOne", "(III)Z"⟩ ∈ TB := tb_of (i := 882) (by decide +kernel) rfl
theorem tb_883 : Cond.code ⟨"StretchedCarpetModel", "isOne", "(III)Z"⟩ prog_9_method_14_code 4 (Option.some .boolean) ∈ TB := tb_of (i := 883) (by decide +kernel) rfl
theorem tb_884 : Cond.methodLink "StretchedCarpetModel" 100 ⟨"StretchedCarpetModel", "isDampItem", "()Z"⟩ ∈ TB := tb_of (i := 884) (by decide +kernel) rfl
theorem tb_886 : Cond.instanceMethod ⟨"StretchedCarpetModel", "isDampItem", "()Z"⟩ ∈ TB := tb_of (i := 886) (by decide +kernel) rfl
theorem tb_887 : Cond.code ⟨"StretchedCarpetModel", "isDampItem", "()Z"⟩ prog_9_method_12_code 1 (Option.some .boolean) ∈ TB := tb_of (i := 887) (by decide +kernel) rfl
theorem tb_888 : Cond.methodLink "StretchedCarpetLaw" 30 ⟨"StretchedCarpetModel", "lay", "()I"⟩ ∈ TB := tb_of (i := 888) (by decide +kernel) rfl
theorem tb_889 : Cond.instanceMethod ⟨"StretchedCarpetModel", "lay", "()I"⟩ ∈ TB := tb_of (i := 889) (by decide +kernel) rfl
theorem tb_890 : Cond.selects "StretchedCarpetModel" ⟨"StretchedCarpetModel", "lay", "()I"⟩ ⟨"StretchedCarpetModel", "lay", "()I"⟩ ∈ TB := tb_of (i := 890) (by decide +kernel) rfl
theorem tb_891 : Cond.code ⟨"StretchedCarpetModel", "lay", "()I"⟩ prog_9_method_17_code 2 (Option.some .int) ∈ TB := tb_of (i := 891) (by decide +kernel) rfl
theorem tb_892 : Cond.methodLink "StretchedCarpetModel" 106 ⟨"StretchedCarpetModel", "fault", "()I"⟩ ∈ TB := tb_of (i := 892) (by decide +kernel) rfl
theorem tb_893 : Cond.methodLink "StretchedCarpetModel" 110 ⟨"StretchedCarpetModel", "bring", "([II[III)V"⟩ ∈ TB := tb_of (i := 893) (by decide +kernel) rfl
theorem tb_894 : Cond.static ⟨"StretchedCarpetModel", "bring", "([II[III)V"⟩ ∈ TB := tb_of (i := 894) (by decide +kernel) rfl
theorem tb_895 : Cond.code ⟨"StretchedCarpetModel", "bring", "([II[III)V"⟩ prog_9_method_6_code 6 (Option.none : Option Jvm.ClassFile.FieldType) ∈ TB := tb_of (i := 895) (by decide +kernel) rfl
theorem tb_896 : Cond.methodLink "StretchedCarpetLaw" 35 ⟨"StretchedCarpetModel", "strip", "(II)I"⟩ ∈ TB := tb_of (i := 896) (by decide +kernel) rfl
theorem tb_897 : Cond.instanceMethod ⟨"StretchedCarpetModel", "strip", "(II)I"⟩ ∈ TB := tb_of (i := 897) (by decide +kernel) rfl
theorem tb_898 : Cond.selects "StretchedCarpetModel" ⟨"StretchedCarpetModel", "strip", "(II)I"⟩ ⟨"StretchedCarpetModel", "strip", "(II)I"⟩ ∈ TB := tb_of (i := 898) (by decide +kernel) rfl
theorem tb_899 : Cond.code ⟨"StretchedCarpetModel", "strip", "(II)I"⟩ prog_9_method_21_code 5 (Option.some .int) ∈ TB := tb_of (i := 899) (by decide +kernel) rfl
theorem tb_900 : Cond.methodLink "StretchedCarpetModel" 123 ⟨"StretchedCarpetModel", "lengthOf", "(I)I"⟩ ∈ TB := tb_of (i := 900) (by decide +kernel) rfl
theorem tb_902 : Cond.instanceMethod ⟨"StretchedCarpetModel", "lengthOf", "(I)I"⟩ ∈ TB := tb_of (i := 902) (by decide +kernel) rfl
theorem tb_903 : Cond.code ⟨"StretchedCarpetModel", "lengthOf", "(I)I"⟩ prog_9_method_20_code 4 (Option.some .int) ∈ TB := tb_of (i := 903) (by decide +kernel) rfl
theorem tb_904 : Cond.methodLink "StretchedCarpetLaw" 39 ⟨"StretchedCarpetModel", "wall", "(II)I"⟩ ∈ TB := tb_of (i := 904) (by decide +kernel) rfl
theorem tb_905 : Cond.instanceMethod ⟨"StretchedCarpetModel", "wall", "(II)I"⟩ ∈ TB := tb_of (i := 905) (by decide +kernel) rfl
theorem tb_906 : Cond.selects "StretchedCarpetModel" ⟨"StretchedCarpetModel", "wall", "(II)I"⟩ ⟨"StretchedCarpetModel", "wall", "(II)I"⟩ ∈ TB := tb_of (i := 906) (by decide +kernel) rfl
theorem tb_907 : Cond.code ⟨"StretchedCarpetModel", "wall", "(II)I"⟩ prog_9_method_23_code 3 (Option.some .int) ∈ TB := tb_of (i := 907) (by decide +kernel) rfl
theorem tb_908 : Cond.methodLink "StretchedCarpetModel" 130 ⟨"StretchedCarpetModel", "isHooked", "([II)Z"⟩ ∈ TB := tb_of (i := 908) (by decide +kernel) rfl
theorem tb_909 : Cond.static ⟨"StretchedCarpetModel", "isHooked", "([II)Z"⟩ ∈ TB := tb_of (i := 909) (by decide +kernel) rfl
theorem tb_910 : Cond.code ⟨"StretchedCarpetModel", "isHooked", "([II)Z"⟩ prog_9_method_22_code 2 (Option.some .boolean) ∈ TB := tb_of (i := 910) (by decide +kernel) rfl
theorem tb_911 : Cond.methodLink "StretchedCarpetModel" 126 ⟨"StretchedCarpetModel", "has", "(II)Z"⟩ ∈ TB := tb_of (i := 911) (by decide +kernel) rfl
theorem tb_912 : Cond.static ⟨"StretchedCarpetModel", "has", "(II)Z"⟩ ∈ TB := tb_of (i := 912) (by decide +kernel) rfl
theorem tb_913 : Cond.code ⟨"StretchedCarpetModel", "has", "(II)Z"⟩ prog_9_method_4_code 2 (Option.some .boolean) ∈ TB := tb_of (i := 913) (by decide +kernel) rfl
theorem tb_914 : Cond.methodLink "StretchedCarpetLaw" 43 ⟨"StretchedCarpetModel", "damp", "(I)I"⟩ ∈ TB := tb_of (i := 914) (by decide +kernel) rfl
theorem tb_915 : Cond.instanceMethod ⟨"StretchedCarpetModel", "damp", "(I)I"⟩ ∈ TB := tb_of (i := 915) (by decide +kernel) rfl
theorem tb_916 : Cond.selects "StretchedCarpetModel" ⟨"StretchedCarpetModel", "damp", "(I)I"⟩ ⟨"StretchedCarpetModel", "damp", "(I)I"⟩ ∈ TB := tb_of (i := 916) (by decide +kernel) rfl
theorem tb_917 : Cond.code ⟨"StretchedCarpetModel", "damp", "(I)I"⟩ prog_9_method_25_code 2 (Option.some .int) ∈ TB := tb_of (i := 917) (by decide +kernel) rfl
theorem tb_918 : Cond.methodLink "StretchedCarpetModel" 134 ⟨"StretchedCarpetModel", "dampBy", "(I)I"⟩ ∈ TB := tb_of (i := 918) (by decide +kernel) rfl
theorem tb_920 : Cond.instanceMethod ⟨"StretchedCarpetModel", "dampBy", "(I)I"⟩ ∈ TB := tb_of (i := 920) (by decide +kernel) rfl
theorem tb_921 : Cond.code ⟨"StretchedCarpetModel", "dampBy", "(I)I"⟩ prog_9_method_24_code 2 (Option.some .int) ∈ TB := tb_of (i := 921) (by decide +kernel) rfl
theorem tb_922 : Cond.methodLink "StretchedCarpetLaw" 47 ⟨"StretchedCarpetModel", "cut", "(I)I"⟩ ∈ TB := tb_of (i := 922) (by decide +kernel) rfl
theorem tb_923 : Cond.instanceMethod ⟨"StretchedCarpetModel", "cut", "(I)I"⟩ ∈ TB := tb_of (i := 923) (by decide +kernel) rfl
theorem tb_924 : Cond.selects "StretchedCarpetModel" ⟨"StretchedCarpetModel", "cut", "(I)I"⟩ ⟨"StretchedCarpetModel", "cut", "(I)I"⟩ ∈ TB := tb_of (i := 924) (by decide +kernel) rfl
theorem tb_925 : Cond.code ⟨"StretchedCarpetModel", "cut", "(I)I"⟩ prog_9_method_28_code 4 (Option.some .int) ∈ TB := tb_of (i := 925) (by decide +kernel) rfl
theorem tb_926 : Cond.methodLink "StretchedCarpetModel" 137 ⟨"StretchedCarpetModel", "coveredIn", "([I)I"⟩ ∈ TB := tb_of (i := 926) (by decide +kernel) rfl
theorem tb_927 : Cond.static ⟨"StretchedCarpetModel", "coveredIn", "([I)I"⟩ ∈ TB := tb_of (i := 927) (by decide +kernel) rfl
theorem tb_928 : Cond.code ⟨"StretchedCarpetModel", "coveredIn", "([I)I"⟩ prog_9_method_18_code 3 (Option.some .int) ∈ TB := tb_of (i := 928) (by decide +kernel) rfl
theorem tb_929 : Cond.methodLink "StretchedCarpetModel" 141 ⟨"StretchedCarpetModel", "longFor", "(II)I"⟩ ∈ TB := tb_of (i := 929) (by decide +kernel) rfl
theorem tb_931 : Cond.instanceMethod ⟨"StretchedCarpetModel", "longFor", "(II)I"⟩ ∈ TB := tb_of (i := 931) (by decide +kernel) rfl
theorem tb_932 : Cond.code ⟨"StretchedCarpetModel", "longFor", "(II)I"⟩ prog_9_method_27_code 5 (Option.some .int) ∈ TB := tb_of (i := 932) (by decide +kernel) rfl
theorem tb_933 : Cond.methodLink "StretchedCarpetModel" 145 ⟨"StretchedCarpetModel", "rollIn", "([I)I"⟩ ∈ TB := tb_of (i := 933) (by decide +kernel) rfl
theorem tb_935 : Cond.instanceMethod ⟨"StretchedCarpetModel", "rollIn", "([I)I"⟩ ∈ TB := tb_of (i := 935) (by decide +kernel) rfl
theorem tb_936 : Cond.code ⟨"StretchedCarpetModel", "rollIn", "([I)I"⟩ prog_9_method_19_code 4 (Option.some .int) ∈ TB := tb_of (i := 936) (by decide +kernel) rfl
theorem tb_937 : Cond.methodLink "StretchedCarpetModel" 148 ⟨"StretchedCarpetModel", "note", "()V"⟩ ∈ TB := tb_of (i := 937) (by decide +kernel) rfl
theorem tb_939 : Cond.instanceMethod ⟨"StretchedCarpetModel", "note", "()V"⟩ ∈ TB := tb_of (i := 939) (by decide +kernel) rfl
theorem tb_940 : Cond.code ⟨"StretchedCarpetModel", "note", "()V"⟩ prog_9_method_26_code 1 (Option.none : Option Jvm.ClassFile.FieldType) ∈ TB := tb_of (i := 940) (by decide +kernel) rfl
theorem tb_941 : Cond.methodLink "StretchedCarpetLaw" 51 ⟨"StretchedCarpetModel", "hook", "(II)I"⟩ ∈ TB := tb_of (i := 941) (by decide +kernel) rfl
theorem tb_942 : Cond.instanceMethod ⟨"StretchedCarpetModel", "hook", "(II)I"⟩ ∈ TB := tb_of (i := 942) (by decide +kernel) rfl
theorem tb_943 : Cond.selects "StretchedCarpetModel" ⟨"StretchedCarpetModel", "hook", "(II)I"⟩ ⟨"StretchedCarpetModel", "hook", "(II)I"⟩ ∈ TB := tb_of (i := 943) (by decide +kernel) rfl
theorem tb_944 : Cond.code ⟨"StretchedCarpetModel", "hook", "(II)I"⟩ prog_9_method_34_code 3 (Option.some .int) ∈ TB := tb_of (i := 944) (by decide +kernel) rfl
theorem tb_945 : Cond.methodLink "StretchedCarpetModel" 162 ⟨"StretchedCarpetModel", "isCovered", "()Z"⟩ ∈ TB := tb_of (i := 945) (by decide +kernel) rfl
theorem tb_947 : Cond.instanceMethod ⟨"StretchedCarpetModel", "isCovered", "()Z"⟩ ∈ TB := tb_of (i := 947) (by decide +kernel) rfl
theorem tb_948 : Cond.code ⟨"StretchedCarpetModel", "isCovered", "()Z"⟩ prog_9_method_33_code 1 (Option.some .boolean) ∈ TB := tb_of (i := 948) (by decide +kernel) rfl
theorem tb_949 : Cond.methodLink "StretchedCarpetModel" 165 ⟨"StretchedCarpetModel", "isFree", "([II)Z"⟩ ∈ TB := tb_of (i := 949) (by decide +kernel) rfl
theorem tb_950 : Cond.static ⟨"StretchedCarpetModel", "isFree", "([II)Z"⟩ ∈ TB := tb_of (i := 950) (by decide +kernel) rfl
theorem tb_951 : Cond.code ⟨"StretchedCarpetModel", "isFree", "([II)Z"⟩ prog_9_method_31_code 2 (Option.some .boolean) ∈ TB := tb_of (i := 951) (by decide +kernel) rfl
theorem tb_952 : Cond.methodLink "StretchedCarpetModel" 168 ⟨"StretchedCarpetModel", "kick", "([III)V"⟩ ∈ TB := tb_of (i := 952) (by decide +kernel) rfl
theorem tb_954 : Cond.instanceMethod ⟨"StretchedCarpetModel", "kick", "([III)V"⟩ ∈ TB := tb_of (i := 954) (by decide +kernel) rfl
theorem tb_955 : Cond.code ⟨"StretchedCarpetModel", "kick", "([III)V"⟩ prog_9_method_32_code 5 (Option.none : Option Jvm.ClassFile.FieldType) ∈ TB := tb_of (i := 955) (by decide +kernel) rfl
theorem tb_956 : Cond.methodLink "StretchedCarpetModel" 158 ⟨"StretchedCarpetModel", "tightBy", "([III)I"⟩ ∈ TB := tb_of (i := 956) (by decide +kernel) rfl
theorem tb_958 : Cond.instanceMethod ⟨"StretchedCarpetModel", "tightBy", "([III)I"⟩ ∈ TB := tb_of (i := 958) (by decide +kernel) rfl
theorem tb_959 : Cond.code ⟨"StretchedCarpetModel", "tightBy", "([III)I"⟩ prog_9_method_30_code 7 (Option.some .int) ∈ TB := tb_of (i := 959) (by decide +kernel) rfl
theorem tb_960 : Cond.methodLink "StretchedCarpetModel" 151 ⟨"StretchedCarpetModel", "bits", "(I)I"⟩ ∈ TB := tb_of (i := 960) (by decide +kernel) rfl
theorem tb_961 : Cond.static ⟨"StretchedCarpetModel", "bits", "(I)I"⟩ ∈ TB := tb_of (i := 961) (by decide +kernel) rfl
theorem tb_962 : Cond.code ⟨"StretchedCarpetModel", "bits", "(I)I"⟩ prog_9_method_5_code 3 (Option.some .int) ∈ TB := tb_of (i := 962) (by decide +kernel) rfl
theorem tb_963 : Cond.methodLink "StretchedCarpetModel" 154 ⟨"StretchedCarpetModel", "givesBy", "(III)I"⟩ ∈ TB := tb_of (i := 963) (by decide +kernel) rfl
theorem tb_964 : Cond.static ⟨"StretchedCarpetModel", "givesBy", "(III)I"⟩ ∈ TB := tb_of (i := 964) (by decide +kernel) rfl
theorem tb_965 : Cond.code ⟨"StretchedCarpetModel", "givesBy", "(III)I"⟩ prog_9_method_29_code 3 (Option.some .int) ∈ TB := tb_of (i := 965) (by decide +kernel) rfl
theorem tb_966 : Cond.methodLink "StretchedCarpetLaw" 55 ⟨"StretchedCarpetModel", "letGo", "(I)I"⟩ ∈ TB := tb_of (i := 966) (by decide +kernel) rfl
theorem tb_967 : Cond.instanceMethod ⟨"StretchedCarpetModel", "letGo", "(I)I"⟩ ∈ TB := tb_of (i := 967) (by decide +kernel) rfl
theorem tb_968 : Cond.selects "StretchedCarpetModel" ⟨"StretchedCarpetModel", "letGo", "(I)I"⟩ ⟨"StretchedCarpetModel", "letGo", "(I)I"⟩ ∈ TB := tb_of (i := 968) (by decide +kernel) rfl
theorem tb_969 : Cond.code ⟨"StretchedCarpetModel", "letGo", "(I)I"⟩ prog_9_method_36_code 3 (Option.some .int) ∈ TB := tb_of (i := 969) (by decide +kernel) rfl
theorem tb_970 : Cond.methodLink "StretchedCarpetModel" 172 ⟨"StretchedCarpetModel", "loosen", "([II)V"⟩ ∈ TB := tb_of (i := 970) (by decide +kernel) rfl
theorem tb_971 : Cond.static ⟨"StretchedCarpetModel", "loosen", "([II)V"⟩ ∈ TB := tb_of (i := 971) (by decide +kernel) rfl
theorem tb_972 : Cond.code ⟨"StretchedCarpetModel", "loosen", "([II)V"⟩ prog_9_method_35_code 2 (Option.none : Option Jvm.ClassFile.FieldType) ∈ TB := tb_of (i := 972) (by decide +kernel) rfl
theorem tb_973 : Cond.methodLink "StretchedCarpetLaw" 59 ⟨"StretchedCarpetModel", "pass", "(I)I"⟩ ∈ TB := tb_of (i := 973) (by decide +kernel) rfl
theorem tb_974 : Cond.instanceMethod ⟨"StretchedCarpetModel", "pass", "(I)I"⟩ ∈ TB := tb_of (i := 974) (by decide +kernel) rfl
theorem tb_975 : Cond.selects "StretchedCarpetModel" ⟨"StretchedCarpetModel", "pass", "(I)I"⟩ ⟨"StretchedCarpetModel", "pass", "(I)I"⟩ ∈ TB := tb_of (i := 975) (by decide +kernel) rfl
theorem tb_976 : Cond.code ⟨"StretchedCarpetModel", "pass", "(I)I"⟩ prog_9_method_38_code 3 (Option.some .int) ∈ TB := tb_of (i := 976) (by decide +kernel) rfl
theorem tb_977 : Cond.methodLink "StretchedCarpetModel" 176 ⟨"StretchedCarpetModel", "passMonth", "([I)V"⟩ ∈ TB := tb_of (i := 977) (by decide +kernel) rfl
theorem tb_979 : Cond.instanceMethod ⟨"StretchedCarpetModel", "passMonth", "([I)V"⟩ ∈ TB := tb_of (i := 979) (by decide +kernel) rfl
theorem tb_980 : Cond.code ⟨"StretchedCarpetModel", "passMonth", "([I)V"⟩ prog_9_method_37_code 4 (Option.none : Option Jvm.ClassFile.FieldType) ∈ TB := tb_of (i := 980) (by decide +kernel) rfl
theorem tb_981 : Cond.methodLink "StretchedCarpetLaw" 63 ⟨"StretchedCarpetModel", "undo", "()I"⟩ ∈ TB := tb_of (i := 981) (by decide +kernel) rfl
theorem tb_982 : Cond.instanceMethod ⟨"StretchedCarpetModel", "undo", "()I"⟩ ∈ TB := tb_of (i := 982) (by decide +kernel) rfl
theorem tb_983 : Cond.selects "StretchedCarpetModel" ⟨"StretchedCarpetModel", "undo", "()I"⟩ ⟨"StretchedCarpetModel", "undo", "()I"⟩ ∈ TB := tb_of (i := 983) (by decide +kernel) rfl
theorem tb_984 : Cond.code ⟨"StretchedCarpetModel", "undo", "()I"⟩ prog_9_method_39_code 1 (Option.some .int) ∈ TB := tb_of (i := 984) (by decide +kernel) rfl
theorem tb_985 : Cond.methodLink "StretchedCarpetLaw" 67 ⟨"StretchedCarpetModel", "plan", "(I)I"⟩ ∈ TB := tb_of (i := 985) (by decide +kernel) rfl
theorem tb_986 : Cond.instanceMethod ⟨"StretchedCarpetModel", "plan", "(I)I"⟩ ∈ TB := tb_of (i := 986) (by decide +kernel) rfl
theorem tb_987 : Cond.selects "StretchedCarpetModel" ⟨"StretchedCarpetModel", "plan", "(I)I"⟩ ⟨"StretchedCarpetModel", "plan", "(I)I"⟩ ∈ TB := tb_of (i := 987) (by decide +kernel) rfl
theorem tb_988 : Cond.code ⟨"StretchedCarpetModel", "plan", "(I)I"⟩ prog_9_method_44_code 2 (Option.some .int) ∈ TB := tb_of (i := 988) (by decide +kernel) rfl
theorem tb_989 : Cond.methodLink "StretchedCarpetModel" 199 ⟨"StretchedCarpetModel", "layPlan", "()V"⟩ ∈ TB := tb_of (i := 989) (by decide +kernel) rfl
theorem tb_991 : Cond.instanceMethod ⟨"StretchedCarpetModel", "layPlan", "()V"⟩ ∈ TB := tb_of (i := 991) (by decide +kernel) rfl
theorem tb_992 : Cond.code ⟨"StretchedCarpetModel", "layPlan", "()V"⟩ prog_9_method_43_code 8 (Option.none : Option Jvm.ClassFile.FieldType) ∈ TB := tb_of (i := 992) (by decide +kernel) rfl
theorem tb_993 : Cond.methodLink "StretchedCarpetModel" 196 ⟨"StretchedCarpetModel", "covers", "(II)Z"⟩ ∈ TB := tb_of (i := 993) (by decide +kernel) rfl
theorem tb_995 : Cond.instanceMethod ⟨"StretchedCarpetModel", "covers", "(II)Z"⟩ ∈ TB := tb_of (i := 995) (by decide +kernel) rfl
theorem tb_996 : Cond.code ⟨"StretchedCarpetModel", "covers", "(II)Z"⟩ prog_9_method_41_code 7 (Option.some .boolean) ∈ TB := tb_of (i := 996) (by decide +kernel) rfl
theorem tb_997 : Cond.methodLink "StretchedCarpetModel" 180 ⟨"StretchedCarpetModel", "seamAt", "(I)I"⟩ ∈ TB := tb_of (i := 997) (by decide +kernel) rfl
theorem tb_999 : Cond.instanceMethod ⟨"StretchedCarpetModel", "seamAt", "(I)I"⟩ ∈ TB := tb_of (i := 999) (by decide +kernel) rfl
theorem tb_1000 : Cond.code ⟨"StretchedCarpetModel", "seamAt", "(I)I"⟩ prog_9_method_40_code 2 (Option.some .int) ∈ TB := tb_of (i := 1000) (by decide +kernel) rfl
theorem tb_1001 : Cond.methodLink "StretchedCarpetModel" 189 ⟨"StretchedCarpetModel", "isBefore", "(I)Z"⟩ ∈ TB := tb_of (i := 1001) (by decide +kernel) rfl
theorem tb_1003 : Cond.instanceMethod ⟨"StretchedCarpetModel", "isBefore", "(I)Z"⟩ ∈ TB := tb_of (i := 1003) (by decide +kernel) rfl
theorem tb_1004 : Cond.code ⟨"StretchedCarpetModel", "isBefore", "(I)Z"⟩ prog_9_method_42_code 3 (Option.some .boolean) ∈ TB := tb_of (i := 1004) (by decide +kernel) rfl
theorem tb_1005 : Cond.methodLink "StretchedCarpetLaw" 71 ⟨"StretchedCarpetModel", "order", "(I)I"⟩ ∈ TB := tb_of (i := 1005) (by decide +kernel) rfl
theorem tb_1006 : Cond.instanceMethod ⟨"StretchedCarpetModel", "order", "(I)I"⟩ ∈ TB := tb_of (i := 1006) (by decide +kernel) rfl
theorem tb_1007 : Cond.selects "StretchedCarpetModel" ⟨"StretchedCarpetModel", "order", "(I)I"⟩ ⟨"StretchedCarpetModel", "order", "(I)I"⟩ ∈ TB := tb_of (i := 1007) (by decide +kernel) rfl
theorem tb_1008 : Cond.code ⟨"StretchedCarpetModel", "order", "(I)I"⟩ prog_9_method_49_code 2 (Option.some .int) ∈ TB := tb_of (i := 1008) (by decide +kernel) rfl
theorem tb_1009 : Cond.methodLink "StretchedCarpetModel" 211 ⟨"StretchedCarpetModel", "layOrder", "()V"⟩ ∈ TB := tb_of (i := 1009) (by decide +kernel) rfl
theorem tb_1011 : Cond.instanceMethod ⟨"StretchedCarpetModel", "layOrder", "()V"⟩ ∈ TB := tb_of (i := 1011) (by decide +kernel) rfl
theorem tb_1012 : Cond.code ⟨"StretchedCarpetModel", "layOrder", "()V"⟩ prog_9_method_47_code 8 (Option.none : Option Jvm.ClassFile.FieldType) ∈ TB := tb_of (i := 1012) (by decide +kernel) rfl
theorem tb_1013 : Cond.methodLink "StretchedCarpetModel" 202 ⟨"StretchedCarpetModel", "kicks", "(I)I"⟩ ∈ TB := tb_of (i := 1013) (by decide +kernel) rfl
theorem tb_1015 : Cond.instanceMethod ⟨"StretchedCarpetModel", "kicks", "(I)I"⟩ ∈ TB := tb_of (i := 1015) (by decide +kernel) rfl
theorem tb_1016 : Cond.code ⟨"StretchedCarpetModel", "kicks", "(I)I"⟩ prog_9_method_48_code 5 (Option.some .int) ∈ TB := tb_of (i := 1016) (by decide +kernel) rfl
theorem tb_1017 : Cond.methodLink "StretchedCarpetModel" 205 ⟨"StretchedCarpetModel", "begin", "()V"⟩ ∈ TB := tb_of (i := 1017) (by decide +kernel) rfl
theorem tb_1019 : Cond.instanceMethod ⟨"StretchedCarpetModel", "begin", "()V"⟩ ∈ TB := tb_of (i := 1019) (by decide +kernel) rfl
theorem tb_1020 : Cond.code ⟨"StretchedCarpetModel", "begin", "()V"⟩ prog_9_method_45_code 1 (Option.none : Option Jvm.ClassFile.FieldType) ∈ TB := tb_of (i := 1020) (by decide +kernel) rfl
theorem tb_1021 : Cond.methodLink "StretchedCarpetModel" 208 ⟨"StretchedCarpetModel", "leastKick", "([III)I"⟩ ∈ TB := tb_of (i := 1021) (by decide +kernel) rfl
theorem tb_1023 : Cond.instanceMethod ⟨"StretchedCarpetModel", "leastKick", "([III)I"⟩ ∈ TB := tb_of (i := 1023) (by decide +kernel) rfl
theorem tb_1024 : Cond.code ⟨"StretchedCarpetModel", "leastKick", "([III)I"⟩ prog_9_method_46_code 6 (Option.some .int) ∈ TB := tb_of (i := 1024) (by decide +kernel) rfl
theorem tb_1025 : Cond.methodLink "StretchedCarpetLaw" 75 ⟨"StretchedCarpetModel", "kickFor", "(II)I"⟩ ∈ TB := tb_of (i := 1025) (by decide +kernel) rfl
theorem tb_1026 : Cond.instanceMethod ⟨"StretchedCarpetModel", "kickFor", "(II)I"⟩ ∈ TB := tb_of (i := 1026) (by decide +kernel) rfl
theorem tb_1027 : Cond.selects "StretchedCarpetModel" ⟨"StretchedCarpetModel", "kickFor", "(II)I"⟩ ⟨"StretchedCarpetModel", "kickFor", "(II)I"⟩ ∈ TB := tb_of (i := 1027) (by decide +kernel) rfl
theorem tb_1028 : Cond.code ⟨"StretchedCarpetModel", "kickFor", "(II)I"⟩ prog_9_method_50_code 3 (Option.some .int) ∈ TB := tb_of (i := 1028) (by decide +kernel) rfl
theorem tb_1029 : Cond.methodLink "StretchedCarpetLaw" 79 ⟨"StretchedCarpetModel", "waves", "()I"⟩ ∈ TB := tb_of (i := 1029) (by decide +kernel) rfl
theorem tb_1030 : Cond.instanceMethod ⟨"StretchedCarpetModel", "waves", "()I"⟩ ∈ TB := tb_of (i := 1030) (by decide +kernel) rfl
theorem tb_1031 : Cond.selects "StretchedCarpetModel" ⟨"StretchedCarpetModel", "waves", "()I"⟩ ⟨"StretchedCarpetModel", "waves", "()I"⟩ ∈ TB := tb_of (i := 1031) (by decide +kernel) rfl
theorem tb_1032 : Cond.code ⟨"StretchedCarpetModel", "waves", "()I"⟩ prog_9_method_52_code 4 (Option.some .int) ∈ TB := tb_of (i := 1032) (by decide +kernel) rfl
theorem tb_1033 : Cond.methodLink "StretchedCarpetModel" 214 ⟨"StretchedCarpetModel", "wavesAt", "(I)I"⟩ ∈ TB := tb_of (i := 1033) (by decide +kernel) rfl
theorem tb_1035 : Cond.instanceMethod ⟨"StretchedCarpetModel", "wavesAt", "(I)I"⟩ ∈ TB := tb_of (i := 1035) (by decide +kernel) rfl
theorem tb_1036 : Cond.code ⟨"StretchedCarpetModel", "wavesAt", "(I)I"⟩ prog_9_method_51_code 3 (Option.some .int) ∈ TB := tb_of (i := 1036) (by decide +kernel) rfl
theorem tb_1037 : Cond.methodLink "StretchedCarpetLaw" 83 ⟨"StretchedCarpetModel", "longest", "()I"⟩ ∈ TB := tb_of (i := 1037) (by decide +kernel) rfl
theorem tb_1038 : Cond.instanceMethod ⟨"StretchedCarpetModel", "longest", "()I"⟩ ∈ TB := tb_of (i := 1038) (by decide +kernel) rfl
theorem tb_1039 : Cond.selects "StretchedCarpetModel" ⟨"StretchedCarpetModel", "longest", "()I"⟩ ⟨"StretchedCarpetModel", "longest", "()I"⟩ ∈ TB := tb_of (i := 1039) (by decide +kernel) rfl
theorem tb_1040 : Cond.code ⟨"StretchedCarpetModel", "longest", "()I"⟩ prog_9_method_53_code 5 (Option.some .int) ∈ TB := tb_of (i := 1040) (by decide +kernel) rfl
theorem tb_1041 : Cond.methodLink "StretchedCarpetLaw" 87 ⟨"StretchedCarpetModel", "seen", "(II)I"⟩ ∈ TB := tb_of (i := 1041) (by decide +kernel) rfl
theorem tb_1042 : Cond.instanceMethod ⟨"StretchedCarpetModel", "seen", "(II)I"⟩ ∈ TB := tb_of (i := 1042) (by decide +kernel) rfl
theorem tb_1043 : Cond.selects "StretchedCarpetModel" ⟨"StretchedCarpetModel", "seen", "(II)I"⟩ ⟨"StretchedCarpetModel", "seen", "(II)I"⟩ ∈ TB := tb_of (i := 1043) (by decide +kernel) rfl
theorem tb_1044 : Cond.code ⟨"StretchedCarpetModel", "seen", "(II)I"⟩ prog_9_method_54_code 3 (Option.some .int) ∈ TB := tb_of (i := 1044) (by decide +kernel) rfl
theorem tb_1045 : Cond.methodLink "StretchedCarpetLaw" 91 ⟨"StretchedCarpetModel", "forget", "()I"⟩ ∈ TB := tb_of (i := 1045) (by decide +kernel) rfl
theorem tb_1046 : Cond.instanceMethod ⟨"StretchedCarpetModel", "forget", "()I"⟩ ∈ TB := tb_of (i := 1046) (by decide +kernel) rfl
theorem tb_1047 : Cond.selects "StretchedCarpetModel" ⟨"StretchedCarpetModel", "forget", "()I"⟩ ⟨"StretchedCarpetModel", "forget", "()I"⟩ ∈ TB := tb_of (i := 1047) (by decide +kernel) rfl
theorem tb_1048 : Cond.code ⟨"StretchedCarpetModel", "forget", "()I"⟩ prog_9_method_55_code 2 (Option.some .int) ∈ TB := tb_of (i := 1048) (by decide +kernel) rfl
theorem tb_1049 : Cond.methodLink "StretchedCarpetLaw" 95 ⟨"StretchedCarpetModel", "may", "(I)I"⟩ ∈ TB := tb_of (i := 1049) (by decide +kernel) rfl
theorem tb_1050 : Cond.instanceMethod ⟨"StretchedCarpetModel", "may", "(I)I"⟩ ∈ TB := tb_of (i := 1050) (by decide +kernel) rfl
theorem tb_1051 : Cond.selects "StretchedCarpetModel" ⟨"StretchedCarpetModel", "may", "(I)I"⟩ ⟨"StretchedCarpetModel", "may", "(I)I"⟩ ∈ TB := tb_of (i := 1051) (by decide +kernel) rfl
theorem tb_1052 : Cond.code ⟨"StretchedCarpetModel", "may", "(I)I"⟩ prog_9_method_57_code 5 (Option.some .int) ∈ TB := tb_of (i := 1052) (by decide +kernel) rfl
theorem tb_1053 : Cond.methodLink "StretchedCarpetModel" 217 ⟨"StretchedCarpetModel", "isSo", "(II)Z"⟩ ∈ TB := tb_of (i := 1053) (by decide +kernel) rfl
theorem tb_1055 : Cond.instanceMethod ⟨"StretchedCarpetModel", "isSo", "(II)Z"⟩ ∈ TB := tb_of (i := 1055) (by decide +kernel) rfl
theorem tb_1056 : Cond.code ⟨"StretchedCarpetModel", "isSo", "(II)Z"⟩ prog_9_method_56_code 6 (Option.some .boolean) ∈ TB := tb_of (i := 1056) (by decide +kernel) rfl
theorem tb_1057 : Cond.methodLink "StretchedCarpetLaw" 99 ⟨"StretchedCarpetModel", "hall", "(II)I"⟩ ∈ TB := tb_of (i := 1057) (by decide +kernel) rfl
theorem tb_1058 : Cond.instanceMethod ⟨"StretchedCarpetModel", "hall", "(II)I"⟩ ∈ TB := tb_of (i := 1058) (by decide +kernel) rfl
theorem tb_1059 : Cond.selects "StretchedCarpetModel" ⟨"StretchedCarpetModel", "hall", "(II)I"⟩ ⟨"StretchedCarpetModel", "hall", "(II)I"⟩ ∈ TB := tb_of (i := 1059) (by decide +kernel) rfl
theorem tb_1060 : Cond.code ⟨"StretchedCarpetModel", "hall", "(II)I"⟩ prog_9_method_58_code 4 (Option.some .int) ∈ TB := tb_of (i := 1060) (by decide +kernel) rfl
theorem tb_1061 : Cond.methodLink "StretchedCarpetLaw" 103 ⟨"StretchedCarpetModel", "left", "(I)I"⟩ ∈ TB := tb_of (i := 1061) (by decide +kernel) rfl
theorem tb_1062 : Cond.instanceMethod ⟨"StretchedCarpetModel", "left", "(I)I"⟩ ∈ TB := tb_of (i := 1062) (by decide +kernel) rfl
theorem tb_1063 : Cond.selects "StretchedCarpetModel" ⟨"StretchedCarpetModel", "left", "(I)I"⟩ ⟨"StretchedCarpetModel", "left", "(I)I"⟩ ∈ TB := tb_of (i := 1063) (by decide +kernel) rfl
theorem tb_1064 : Cond.code ⟨"StretchedCarpetModel", "left", "(I)I"⟩ prog_9_method_59_code 4 (Option.some .int) ∈ TB := tb_of (i := 1064) (by decide +kernel) rfl
theorem tb_1065 : Cond.methodLink "StretchedCarpetLaw" 108 ⟨"StretchedCarpetModel", "likely", "(IIII)I"⟩ ∈ TB := tb_of (i := 1065) (by decide +kernel) rfl
theorem tb_1066 : Cond.instanceMethod ⟨"StretchedCarpetModel", "likely", "(IIII)I"⟩ ∈ TB := tb_of (i := 1066) (by decide +kernel) rfl
theorem tb_1067 : Cond.selects "StretchedCarpetModel" ⟨"StretchedCarpetModel", "likely", "(IIII)I"⟩ ⟨"StretchedCarpetModel", "likely", "(IIII)I"⟩ ∈ TB := tb_of (i := 1067) (by decide +kernel) rfl
theorem tb_1068 : Cond.code ⟨"StretchedCarpetModel", "likely", "(IIII)I"⟩ prog_9_method_60_code 11 (Option.some .int) ∈ TB := tb_of (i := 1068) (by decide +kernel) rfl
theorem tb_1069 : Cond.methodLink "StretchedCarpetLaw" 113 ⟨"StretchedCarpetModel", "year", "(III)I"⟩ ∈ TB := tb_of (i := 1069) (by decide +kernel) rfl
theorem tb_1070 : Cond.instanceMethod ⟨"StretchedCarpetModel", "year", "(III)I"⟩ ∈ TB := tb_of (i := 1070) (by decide +kernel) rfl
theorem tb_1071 : Cond.selects "StretchedCarpetModel" ⟨"StretchedCarpetModel", "year", "(III)I"⟩ ⟨"StretchedCarpetModel", "year", "(III)I"⟩ ∈ TB := tb_of (i := 1071) (by decide +kernel) rfl
theorem tb_1072 : Cond.code ⟨"StretchedCarpetModel", "year", "(III)I"⟩ prog_9_method_61_code 9 (Option.some .int) ∈ TB := tb_of (i := 1072) (by decide +kernel) rfl
theorem tb_1073 : Cond.constantLong "StretchedCarpetModel" 220 (lI (7919)) ∈ TB := tb_of (i := 1073) (by decide +kernel) rfl
theorem tb_1074 : Cond.constantLong "StretchedCarpetModel" 222 (lI (6151)) ∈ TB := tb_of (i := 1074) (by decide +kernel) rfl
theorem tb_1075 : Cond.constantLong "StretchedCarpetModel" 224 (lI (65521)) ∈ TB := tb_of (i := 1075) (by decide +kernel) rfl
theorem tb_1076 : Cond.constantLong "StretchedCarpetModel" 226 (lI (2)) ∈ TB := tb_of (i := 1076) (by decide +kernel) rfl
theorem tb_1077 : Cond.methodLink "StretchedCarpetLaw" 117 ⟨"StretchedCarpetModel", "keep", "()I"⟩ ∈ TB := tb_of (i := 1077) (by decide +kernel) rfl
theorem tb_1078 : Cond.instanceMethod ⟨"StretchedCarpetModel", "keep", "()I"⟩ ∈ TB := tb_of (i := 1078) (by decide +kernel) rfl
theorem tb_1079 : Cond.selects "StretchedCarpetModel" ⟨"StretchedCarpetModel", "keep", "()I"⟩ ⟨"StretchedCarpetModel", "keep", "()I"⟩ ∈ TB := tb_of (i := 1079) (by decide +kernel) rfl
theorem tb_1080 : Cond.code ⟨"StretchedCarpetModel", "keep", "()I"⟩ prog_9_method_62_code 1 (Option.some .int) ∈ TB := tb_of (i := 1080) (by decide +kernel) rfl
theorem tb_1081 : Cond.methodLink "StretchedCarpetLaw" 121 ⟨"StretchedCarpetModel", "back", "()I"⟩ ∈ TB := tb_of (i := 1081) (by decide +kernel) rfl
theorem tb_1082 : Cond.instanceMethod ⟨"StretchedCarpetModel", "back", "()I"⟩ ∈ TB := tb_of (i := 1082) (by decide +kernel) rfl
theorem tb_1083 : Cond.selects "StretchedCarpetModel" ⟨"StretchedCarpetModel", "back", "()I"⟩ ⟨"StretchedCarpetModel", "back", "()I"⟩ ∈ TB := tb_of (i := 1083) (by decide +kernel) rfl
theorem tb_1084 : Cond.code ⟨"StretchedCarpetModel", "back", "()I"⟩ prog_9_method_63_code 1 (Option.some .int) ∈ TB := tb_of (i := 1084) (by decide +kernel) rfl
theorem tb_1085 : Cond.methodLink "StretchedCarpetLaw" 125 ⟨"StretchedCarpetModel", "count", "(I)I"⟩ ∈ TB := tb_of (i := 1085) (by decide +kernel) rfl
theorem tb_1086 : Cond.instanceMethod ⟨"StretchedCarpetModel", "count", "(I)I"⟩ ∈ TB := tb_of (i := 1086) (by decide +kernel) rfl
theorem tb_1087 : Cond.selects "StretchedCarpetModel" ⟨"StretchedCarpetModel", "count", "(I)I"⟩ ⟨"StretchedCarpetModel", "count", "(I)I"⟩ ∈ TB := tb_of (i := 1087) (by decide +kernel) rfl
theorem tb_1088 : Cond.code ⟨"StretchedCarpetModel", "count", "(I)I"⟩ prog_9_method_64_code 2 (Option.some .int) ∈ TB := tb_of (i := 1088) (by decide +kernel) rfl
theorem tp_X1_choose : Cond.selects "StretchedCarpet$CutPlan" ⟨"StretchedCarpet$CutPlan", "choose", "(LStretchedCarpet$Room;I)V"⟩ ⟨"StretchedCarpet$CutPlan", "choose", "(LStretchedCarpet$Room;I)V"⟩ ∈ TB := tb_of (i := 6) (by decide +kernel) rfl
theorem tp_X1_isLess : Cond.selects "StretchedCarpet$CutPlan" ⟨"StretchedCarpet$CutPlan", "isLess", "(III)Z"⟩ ⟨"StretchedCarpet$CutPlan", "isLess", "(III)Z"⟩ ∈ TB := tb_of (i := 7) (by decide +kernel) rfl
theorem tp_X2_isOrder : Cond.selects "StretchedCarpet$HookOrder" ⟨"StretchedCarpet$HookOrder", "isOrder", "(LStretchedCarpet$Carpet;I)Z"⟩ ⟨"StretchedCarpet$HookOrder", "isOrder", "(LStretchedCarpet$Carpet;I)Z"⟩ ∈ TB := tb_of (i := 8) (by decide +kernel) rfl
theorem tp_X2_kicksOf : Cond.selects "StretchedCarpet$HookOrder" ⟨"StretchedCarpet$HookOrder", "kicksOf", "(LStretchedCarpet$Room;LStretchedCarpet$Carpet;LStretchedCarpet$Carpet;I)I"⟩ ⟨"StretchedCarpet$HookOrder", "kicksOf", "(LStretchedCarpet$Room;LStretchedCarpet$Carpet;LStretchedCarpet$Carpet;I)I"⟩ ∈ TB := tb_of (i := 10) (by decide +kernel) rfl
theorem tp_X2_wallIn : Cond.selects "StretchedCarpet$HookOrder" ⟨"StretchedCarpet$HookOrder", "wallIn", "(II)I"⟩ ⟨"StretchedCarpet$HookOrder", "wallIn", "(II)I"⟩ ∈ TB := tb_of (i := 9) (by decide +kernel) rfl
theorem tp_X3_clear : Cond.selects "StretchedCarpet$Room" ⟨"StretchedCarpet$Room", "clear", "()V"⟩ ⟨"StretchedCarpet$Room", "clear", "()V"⟩ ∈ TB := tb_of (i := 0) (by decide +kernel) rfl
theorem tp_X3_readNumbers : Cond.selects "StretchedCarpet$Room" ⟨"StretchedCarpet$Room", "readNumbers", "([CII)I"⟩ ⟨"StretchedCarpet$Room", "readNumbers", "([CII)I"⟩ ∈ TB := tb_of (i := 1) (by decide +kernel) rfl
theorem tp_X3_takeDamp : Cond.selects "StretchedCarpet$Room" ⟨"StretchedCarpet$Room", "takeDamp", "(I)Z"⟩ ⟨"StretchedCarpet$Room", "takeDamp", "(I)Z"⟩ ∈ TB := tb_of (i := 4) (by decide +kernel) rfl
theorem tp_X3_takeItem : Cond.selects "StretchedCarpet$Room" ⟨"StretchedCarpet$Room", "takeItem", "(I)Z"⟩ ⟨"StretchedCarpet$Room", "takeItem", "(I)Z"⟩ ∈ TB := tb_of (i := 2) (by decide +kernel) rfl
theorem tp_X3_takeStrip : Cond.selects "StretchedCarpet$Room" ⟨"StretchedCarpet$Room", "takeStrip", "(III)Z"⟩ ⟨"StretchedCarpet$Room", "takeStrip", "(III)Z"⟩ ∈ TB := tb_of (i := 3) (by decide +kernel) rfl
theorem tp_X4_rowAt : Cond.selects "StretchedCarpet$Shelf" ⟨"StretchedCarpet$Shelf", "rowAt", "(I)LStretchedCarpet$Carpet;"⟩ ⟨"StretchedCarpet$Shelf", "rowAt", "(I)LStretchedCarpet$Carpet;"⟩ ∈ TB := tb_of (i := 5) (by decide +kernel) rfl
theorem tp_X5_explainedBy : Cond.selects "StretchedCarpet$Sightings" ⟨"StretchedCarpet$Sightings", "explainedBy", "(II)Z"⟩ ⟨"StretchedCarpet$Sightings", "explainedBy", "(II)Z"⟩ ∈ TB := tb_of (i := 11) (by decide +kernel) rfl
theorem tp_X7_addStrip : Cond.selects "StretchedCarpetModel" ⟨"StretchedCarpetModel", "addStrip", "(IIII)V"⟩ ⟨"StretchedCarpetModel", "addStrip", "(IIII)V"⟩ ∈ TB := tb_of (i := 12) (by decide +kernel) rfl
theorem tp_X7_begin : Cond.selects "StretchedCarpetModel" ⟨"StretchedCarpetModel", "begin", "()V"⟩ ⟨"StretchedCarpetModel", "begin", "()V"⟩ ∈ TB := tb_of (i := 35) (by decide +kernel) rfl
theorem tp_X7_covers : Cond.selects "StretchedCarpetModel" ⟨"StretchedCarpetModel", "covers", "(II)Z"⟩ ⟨"StretchedCarpetModel", "covers", "(II)Z"⟩ ∈ TB := tb_of (i := 30) (by decide +kernel) rfl
theorem tp_X7_dampBy : Cond.selects "StretchedCarpetModel" ⟨"StretchedCarpetModel", "dampBy", "(I)I"⟩ ⟨"StretchedCarpetModel", "dampBy", "(I)I"⟩ ∈ TB := tb_of (i := 21) (by decide +kernel) rfl
theorem tp_X7_isBefore : Cond.selects "StretchedCarpetModel" ⟨"StretchedCarpetModel", "isBefore", "(I)Z"⟩ ⟨"StretchedCarpetModel", "isBefore", "(I)Z"⟩ ∈ TB := tb_of (i := 32) (by decide +kernel) rfl
theorem tp_X7_isCovered : Cond.selects "StretchedCarpetModel" ⟨"StretchedCarpetModel", "isCovered", "()Z"⟩ ⟨"StretchedCarpetModel", "isCovered", "()Z"⟩ ∈ TB := tb_of (i := 25) (by decide +kernel) rfl
theorem tp_X7_isDampItem : Cond.selects "StretchedCarpetModel" ⟨"StretchedCarpetModel", "isDampItem", "()Z"⟩ ⟨"StretchedCarpetModel", "isDampItem", "()Z"⟩ ∈ TB := tb_of (i := 19) (by decide +kernel) rfl
theorem tp_X7_isItem : Cond.selects "StretchedCarpetModel" ⟨"StretchedCarpetModel", "isItem", "()Z"⟩ ⟨"StretchedCarpetModel", "isItem", "()Z"⟩ ∈ TB := tb_of (i := 13) (by decide +kernel) rfl
theorem tp_X7_isNumber : Cond.selects "StretchedCarpetModel" ⟨"StretchedCarpetModel", "isNumber", "(III)Z"⟩ ⟨"StretchedCarpetModel", "isNumber", "(III)Z"⟩ ∈ TB := tb_of (i := 16) (by decide +kernel) rfl
theorem tp_X7_isOne : Cond.selects "StretchedCarpetModel" ⟨"StretchedCarpetModel", "isOne", "(III)Z"⟩ ⟨"StretchedCarpetModel", "isOne", "(III)Z"⟩ ∈ TB := tb_of (i := 18) (by decide +kernel) rfl
theorem tp_X7_isPair : Cond.selects "StretchedCarpetModel" ⟨"StretchedCarpetModel", "isPair", "(IIIII)Z"⟩ ⟨"StretchedCarpetModel", "isPair", "(IIIII)Z"⟩ ∈ TB := tb_of (i := 17) (by decide +kernel) rfl
theorem tp_X7_isSo : Cond.selects "StretchedCarpetModel" ⟨"StretchedCarpetModel", "isSo", "(II)Z"⟩ ⟨"StretchedCarpetModel", "isSo", "(II)Z"⟩ ∈ TB := tb_of (i := 38) (by decide +kernel) rfl
theorem tp_X7_isStripItem : Cond.selects "StretchedCarpetModel" ⟨"StretchedCarpetModel", "isStripItem", "()Z"⟩ ⟨"StretchedCarpetModel", "isStripItem", "()Z"⟩ ∈ TB := tb_of (i := 15) (by decide +kernel) rfl
theorem tp_X7_kick : Cond.selects "StretchedCarpetModel" ⟨"StretchedCarpetModel", "kick", "([III)V"⟩ ⟨"StretchedCarpetModel", "kick", "([III)V"⟩ ∈ TB := tb_of (i := 26) (by decide +kernel) rfl
theorem tp_X7_kicks : Cond.selects "StretchedCarpetModel" ⟨"StretchedCarpetModel", "kicks", "(I)I"⟩ ⟨"StretchedCarpetModel", "kicks", "(I)I"⟩ ∈ TB := tb_of (i := 34) (by decide +kernel) rfl
theorem tp_X7_layOrder : Cond.selects "StretchedCarpetModel" ⟨"StretchedCarpetModel", "layOrder", "()V"⟩ ⟨"StretchedCarpetModel", "layOrder", "()V"⟩ ∈ TB := tb_of (i := 33) (by decide +kernel) rfl
theorem tp_X7_layPlan : Cond.selects "StretchedCarpetModel" ⟨"StretchedCarpetModel", "layPlan", "()V"⟩ ⟨"StretchedCarpetModel", "layPlan", "()V"⟩ ∈ TB := tb_of (i := 29) (by decide +kernel) rfl
theorem tp_X7_leastKick : Cond.selects "StretchedCarpetModel" ⟨"StretchedCarpetModel", "leastKick", "([III)I"⟩ ⟨"StretchedCarpetModel", "leastKick", "([III)I"⟩ ∈ TB := tb_of (i := 36) (by decide +kernel) rfl
theorem tp_X7_lengthOf : Cond.selects "StretchedCarpetModel" ⟨"StretchedCarpetModel", "lengthOf", "(I)I"⟩ ⟨"StretchedCarpetModel", "lengthOf", "(I)I"⟩ ∈ TB := tb_of (i := 20) (by decide +kernel) rfl
theorem tp_X7_letterAt : Cond.selects "StretchedCarpetModel" ⟨"StretchedCarpetModel", "letterAt", "(I)I"⟩ ⟨"StretchedCarpetModel", "letterAt", "(I)I"⟩ ∈ TB := tb_of (i := 14) (by decide +kernel) rfl
theorem tp_X7_longFor : Cond.selects "StretchedCarpetModel" ⟨"StretchedCarpetModel", "longFor", "(II)I"⟩ ⟨"StretchedCarpetModel", "longFor", "(II)I"⟩ ∈ TB := tb_of (i := 22) (by decide +kernel) rfl
theorem tp_X7_note : Cond.selects "StretchedCarpetModel" ⟨"StretchedCarpetModel", "note", "()V"⟩ ⟨"StretchedCarpetModel", "note", "()V"⟩ ∈ TB := tb_of (i := 24) (by decide +kernel) rfl
theorem tp_X7_passMonth : Cond.selects "StretchedCarpetModel" ⟨"StretchedCarpetModel", "passMonth", "([I)V"⟩ ⟨"StretchedCarpetModel", "passMonth", "([I)V"⟩ ∈ TB := tb_of (i := 28) (by decide +kernel) rfl
theorem tp_X7_rollIn : Cond.selects "StretchedCarpetModel" ⟨"StretchedCarpetModel", "rollIn", "([I)I"⟩ ⟨"StretchedCarpetModel", "rollIn", "([I)I"⟩ ∈ TB := tb_of (i := 23) (by decide +kernel) rfl
theorem tp_X7_seamAt : Cond.selects "StretchedCarpetModel" ⟨"StretchedCarpetModel", "seamAt", "(I)I"⟩ ⟨"StretchedCarpetModel", "seamAt", "(I)I"⟩ ∈ TB := tb_of (i := 31) (by decide +kernel) rfl
theorem tp_X7_tightBy : Cond.selects "StretchedCarpetModel" ⟨"StretchedCarpetModel", "tightBy", "([III)I"⟩ ⟨"StretchedCarpetModel", "tightBy", "([III)I"⟩ ∈ TB := tb_of (i := 27) (by decide +kernel) rfl
theorem tp_X7_wavesAt : Cond.selects "StretchedCarpetModel" ⟨"StretchedCarpetModel", "wavesAt", "(I)I"⟩ ⟨"StretchedCarpetModel", "wavesAt", "(I)I"⟩ ∈ TB := tb_of (i := 37) (by decide +kernel) rfl
