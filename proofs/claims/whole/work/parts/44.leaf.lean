/-! ===== the constructors, walked (wip/gen/ctor.py) ===== -/
theorem cw_67 : (Jvm.Cond.initialized "PromisesKept$Wants") ∈ lw_tbl := List.mem_of_getElem? (i := 67) (by decide +kernel)
theorem cw_68 : (Jvm.Cond.initialized "PromisesKept$Country") ∈ lw_tbl := List.mem_of_getElem? (i := 68) (by decide +kernel)
theorem cw_69 : (Jvm.Cond.initialized "PromisesKept$Notes") ∈ lw_tbl := List.mem_of_getElem? (i := 69) (by decide +kernel)
theorem cw_70 : (Jvm.Cond.initialized "PromisesKept$Course") ∈ lw_tbl := List.mem_of_getElem? (i := 70) (by decide +kernel)
theorem cw_71 : (Jvm.Cond.initialized "PromisesKept$Sheet") ∈ lw_tbl := List.mem_of_getElem? (i := 71) (by decide +kernel)
theorem cw_81 : (Jvm.Cond.methodLink "PromisesKept" (3 : Nat) ({ cls := "java/lang/Object", name := "<init>", desc := "()V" } : Jvm.MethodName)) ∈ lw_tbl := List.mem_of_getElem? (i := 81) (by decide +kernel)
theorem cw_82 : (Jvm.Cond.instanceMethod ({ cls := "java/lang/Object", name := "<init>", desc := "()V" } : Jvm.MethodName)) ∈ lw_tbl := List.mem_of_getElem? (i := 82) (by decide +kernel)
theorem cw_84 : (Jvm.Cond.classLink "PromisesKept" (9 : Nat) "PromisesKept$Wants") ∈ lw_tbl := List.mem_of_getElem? (i := 84) (by decide +kernel)
theorem cw_85 : (Jvm.Cond.instantiable "PromisesKept$Wants" (9 : Nat)) ∈ lw_tbl := List.mem_of_getElem? (i := 85) (by decide +kernel)
theorem cw_89 : (Jvm.Cond.methodLink "PromisesKept$Wants" (3 : Nat) ({ cls := "java/lang/Object", name := "<init>", desc := "()V" } : Jvm.MethodName)) ∈ lw_tbl := List.mem_of_getElem? (i := 89) (by decide +kernel)
theorem cw_90 : (Jvm.Cond.fieldLink "PromisesKept$Wants" (9 : Nat) "PromisesKept$Wants" "bytes" "[I") ∈ lw_tbl := List.mem_of_getElem? (i := 90) (by decide +kernel)
theorem cw_91 : (Jvm.Cond.fieldLink "PromisesKept$Wants" (15 : Nat) "PromisesKept$Wants" "who" "[I") ∈ lw_tbl := List.mem_of_getElem? (i := 91) (by decide +kernel)
theorem cw_94 : (Jvm.Cond.fieldLink "PromisesKept$Wants" (18 : Nat) "PromisesKept$Wants" "to" "[I") ∈ lw_tbl := List.mem_of_getElem? (i := 94) (by decide +kernel)
theorem cw_96 : (Jvm.Cond.fieldLink "PromisesKept$Wants" (21 : Nat) "PromisesKept$Wants" "asked" "[I") ∈ lw_tbl := List.mem_of_getElem? (i := 96) (by decide +kernel)
theorem cw_99 : (Jvm.Cond.fieldLink "PromisesKept$Wants" (24 : Nat) "PromisesKept$Wants" "due" "[I") ∈ lw_tbl := List.mem_of_getElem? (i := 99) (by decide +kernel)
theorem cw_102 : (Jvm.Cond.fieldLink "PromisesKept$Wants" (27 : Nat) "PromisesKept$Wants" "worth" "[I") ∈ lw_tbl := List.mem_of_getElem? (i := 102) (by decide +kernel)
theorem cw_105 : (Jvm.Cond.fieldLink "PromisesKept$Wants" (30 : Nat) "PromisesKept$Wants" "length" "I") ∈ lw_tbl := List.mem_of_getElem? (i := 105) (by decide +kernel)
theorem cw_107 : (Jvm.Cond.fieldLink "PromisesKept$Wants" (34 : Nat) "PromisesKept$Wants" "number" "I") ∈ lw_tbl := List.mem_of_getElem? (i := 107) (by decide +kernel)
theorem cw_110 : (Jvm.Cond.fieldLink "PromisesKept$Wants" (37 : Nat) "PromisesKept$Wants" "faultAt" "I") ∈ lw_tbl := List.mem_of_getElem? (i := 110) (by decide +kernel)
theorem cw_132 : (Jvm.Cond.classLink "PromisesKept" (16 : Nat) "PromisesKept$Country") ∈ lw_tbl := List.mem_of_getElem? (i := 132) (by decide +kernel)
theorem cw_133 : (Jvm.Cond.instantiable "PromisesKept$Country" (6 : Nat)) ∈ lw_tbl := List.mem_of_getElem? (i := 133) (by decide +kernel)
theorem cw_137 : (Jvm.Cond.methodLink "PromisesKept$Country" (3 : Nat) ({ cls := "java/lang/Object", name := "<init>", desc := "()V" } : Jvm.MethodName)) ∈ lw_tbl := List.mem_of_getElem? (i := 137) (by decide +kernel)
theorem cw_138 : (Jvm.Cond.classLink "PromisesKept$Country" (28 : Nat) "PromisesKept$Notes") ∈ lw_tbl := List.mem_of_getElem? (i := 138) (by decide +kernel)
theorem cw_139 : (Jvm.Cond.instantiable "PromisesKept$Notes" (4 : Nat)) ∈ lw_tbl := List.mem_of_getElem? (i := 139) (by decide +kernel)
theorem cw_143 : (Jvm.Cond.methodLink "PromisesKept$Notes" (3 : Nat) ({ cls := "java/lang/Object", name := "<init>", desc := "()V" } : Jvm.MethodName)) ∈ lw_tbl := List.mem_of_getElem? (i := 143) (by decide +kernel)
theorem cw_144 : (Jvm.Cond.fieldLink "PromisesKept$Notes" (9 : Nat) "PromisesKept$Notes" "days" "[I") ∈ lw_tbl := List.mem_of_getElem? (i := 144) (by decide +kernel)
theorem cw_145 : (Jvm.Cond.fieldLink "PromisesKept$Notes" (15 : Nat) "PromisesKept$Notes" "numbers" "[I") ∈ lw_tbl := List.mem_of_getElem? (i := 145) (by decide +kernel)
theorem cw_146 : (Jvm.Cond.fieldLink "PromisesKept$Notes" (18 : Nat) "PromisesKept$Notes" "values" "[I") ∈ lw_tbl := List.mem_of_getElem? (i := 146) (by decide +kernel)
theorem cw_147 : (Jvm.Cond.fieldLink "PromisesKept$Notes" (21 : Nat) "PromisesKept$Notes" "size" "I") ∈ lw_tbl := List.mem_of_getElem? (i := 147) (by decide +kernel)
theorem cw_159 : (Jvm.Cond.fieldLink "PromisesKept$Country" (9 : Nat) "PromisesKept$Country" "slots" "I") ∈ lw_tbl := List.mem_of_getElem? (i := 159) (by decide +kernel)
theorem cw_161 : (Jvm.Cond.fieldLink "PromisesKept$Country" (15 : Nat) "PromisesKept$Country" "law" "I") ∈ lw_tbl := List.mem_of_getElem? (i := 161) (by decide +kernel)
theorem cw_163 : (Jvm.Cond.fieldLink "PromisesKept$Country" (18 : Nat) "PromisesKept$Country" "meansAtFirst" "[I") ∈ lw_tbl := List.mem_of_getElem? (i := 163) (by decide +kernel)
theorem cw_165 : (Jvm.Cond.fieldLink "PromisesKept$Country" (22 : Nat) "PromisesKept$Country" "trustAtFirst" "[I") ∈ lw_tbl := List.mem_of_getElem? (i := 165) (by decide +kernel)
theorem cw_167 : (Jvm.Cond.fieldLink "PromisesKept$Country" (25 : Nat) "PromisesKept$Country" "ahead" "[I") ∈ lw_tbl := List.mem_of_getElem? (i := 167) (by decide +kernel)
theorem cw_169 : (Jvm.Cond.fieldLink "PromisesKept$Country" (31 : Nat) "PromisesKept$Country" "forgivings" "LPromisesKept$Notes;") ∈ lw_tbl := List.mem_of_getElem? (i := 169) (by decide +kernel)
theorem cw_185 : (Jvm.Cond.classLink "PromisesKept" (23 : Nat) "PromisesKept$Notes") ∈ lw_tbl := List.mem_of_getElem? (i := 185) (by decide +kernel)
theorem cw_187 : (Jvm.Cond.classLink "PromisesKept" (30 : Nat) "PromisesKept$Course") ∈ lw_tbl := List.mem_of_getElem? (i := 187) (by decide +kernel)
theorem cw_188 : (Jvm.Cond.instantiable "PromisesKept$Course" (14 : Nat)) ∈ lw_tbl := List.mem_of_getElem? (i := 188) (by decide +kernel)
theorem cw_192 : (Jvm.Cond.methodLink "PromisesKept$Course" (3 : Nat) ({ cls := "java/lang/Object", name := "<init>", desc := "()V" } : Jvm.MethodName)) ∈ lw_tbl := List.mem_of_getElem? (i := 192) (by decide +kernel)
theorem cw_193 : (Jvm.Cond.fieldLink "PromisesKept$Course" (49 : Nat) "PromisesKept$Course" "wants" "LPromisesKept$Wants;") ∈ lw_tbl := List.mem_of_getElem? (i := 193) (by decide +kernel)
theorem cw_194 : (Jvm.Cond.fieldLink "PromisesKept$Course" (53 : Nat) "PromisesKept$Course" "country" "LPromisesKept$Country;") ∈ lw_tbl := List.mem_of_getElem? (i := 194) (by decide +kernel)
theorem cw_195 : (Jvm.Cond.fieldLink "PromisesKept$Course" (9 : Nat) "PromisesKept$Course" "trust" "[I") ∈ lw_tbl := List.mem_of_getElem? (i := 195) (by decide +kernel)
theorem cw_196 : (Jvm.Cond.fieldLink "PromisesKept$Course" (15 : Nat) "PromisesKept$Course" "means" "[I") ∈ lw_tbl := List.mem_of_getElem? (i := 196) (by decide +kernel)
theorem cw_197 : (Jvm.Cond.fieldLink "PromisesKept$Course" (18 : Nat) "PromisesKept$Course" "madeOn" "[I") ∈ lw_tbl := List.mem_of_getElem? (i := 197) (by decide +kernel)
theorem cw_198 : (Jvm.Cond.fieldLink "PromisesKept$Course" (21 : Nat) "PromisesKept$Course" "endedOn" "[I") ∈ lw_tbl := List.mem_of_getElem? (i := 198) (by decide +kernel)
theorem cw_199 : (Jvm.Cond.fieldLink "PromisesKept$Course" (24 : Nat) "PromisesKept$Course" "ending" "[I") ∈ lw_tbl := List.mem_of_getElem? (i := 199) (by decide +kernel)
theorem cw_200 : (Jvm.Cond.fieldLink "PromisesKept$Course" (27 : Nat) "PromisesKept$Course" "law" "I") ∈ lw_tbl := List.mem_of_getElem? (i := 200) (by decide +kernel)
theorem cw_201 : (Jvm.Cond.fieldLink "PromisesKept$Course" (31 : Nat) "PromisesKept$Course" "slots" "I") ∈ lw_tbl := List.mem_of_getElem? (i := 201) (by decide +kernel)
theorem cw_202 : (Jvm.Cond.fieldLink "PromisesKept$Course" (34 : Nat) "PromisesKept$Course" "leftOut" "I") ∈ lw_tbl := List.mem_of_getElem? (i := 202) (by decide +kernel)
theorem cw_203 : (Jvm.Cond.fieldLink "PromisesKept$Course" (37 : Nat) "PromisesKept$Course" "day" "I") ∈ lw_tbl := List.mem_of_getElem? (i := 203) (by decide +kernel)
theorem cw_205 : (Jvm.Cond.fieldLink "PromisesKept$Course" (40 : Nat) "PromisesKept$Course" "heldBits" "I") ∈ lw_tbl := List.mem_of_getElem? (i := 205) (by decide +kernel)
theorem cw_207 : (Jvm.Cond.fieldLink "PromisesKept$Course" (43 : Nat) "PromisesKept$Course" "waitingBits" "I") ∈ lw_tbl := List.mem_of_getElem? (i := 207) (by decide +kernel)
theorem cw_209 : (Jvm.Cond.fieldLink "PromisesKept$Course" (46 : Nat) "PromisesKept$Course" "keptBits" "I") ∈ lw_tbl := List.mem_of_getElem? (i := 209) (by decide +kernel)
theorem cw_239 : (Jvm.Cond.classLink "PromisesKept" (45 : Nat) "PromisesKept$Sheet") ∈ lw_tbl := List.mem_of_getElem? (i := 239) (by decide +kernel)
theorem cw_241 : (Jvm.Cond.instantiable "PromisesKept$Sheet" (4 : Nat)) ∈ lw_tbl := List.mem_of_getElem? (i := 241) (by decide +kernel)
theorem cw_245 : (Jvm.Cond.methodLink "PromisesKept$Sheet" (3 : Nat) ({ cls := "java/lang/Object", name := "<init>", desc := "()V" } : Jvm.MethodName)) ∈ lw_tbl := List.mem_of_getElem? (i := 245) (by decide +kernel)
theorem cw_246 : (Jvm.Cond.fieldLink "PromisesKept$Sheet" (9 : Nat) "PromisesKept$Sheet" "items" "[I") ∈ lw_tbl := List.mem_of_getElem? (i := 246) (by decide +kernel)
theorem cw_247 : (Jvm.Cond.fieldLink "PromisesKept$Sheet" (15 : Nat) "PromisesKept$Sheet" "lost" "Z") ∈ lw_tbl := List.mem_of_getElem? (i := 247) (by decide +kernel)
theorem cw_249 : (Jvm.Cond.fieldLink "PromisesKept$Sheet" (19 : Nat) "PromisesKept$Sheet" "form" "I") ∈ lw_tbl := List.mem_of_getElem? (i := 249) (by decide +kernel)
theorem cw_251 : (Jvm.Cond.fieldLink "PromisesKept$Sheet" (23 : Nat) "PromisesKept$Sheet" "size" "I") ∈ lw_tbl := List.mem_of_getElem? (i := 251) (by decide +kernel)
theorem cw_262 : (Jvm.Cond.fieldLink "PromisesKept" (12 : Nat) "PromisesKept" "wants" "LPromisesKept$Wants;") ∈ lw_tbl := List.mem_of_getElem? (i := 262) (by decide +kernel)
theorem cw_263 : (Jvm.Cond.fieldLink "PromisesKept" (19 : Nat) "PromisesKept" "country" "LPromisesKept$Country;") ∈ lw_tbl := List.mem_of_getElem? (i := 263) (by decide +kernel)
theorem cw_264 : (Jvm.Cond.fieldLink "PromisesKept" (26 : Nat) "PromisesKept" "sights" "LPromisesKept$Notes;") ∈ lw_tbl := List.mem_of_getElem? (i := 264) (by decide +kernel)
theorem cw_265 : (Jvm.Cond.fieldLink "PromisesKept" (35 : Nat) "PromisesKept" "now" "LPromisesKept$Course;") ∈ lw_tbl := List.mem_of_getElem? (i := 265) (by decide +kernel)
theorem cw_266 : (Jvm.Cond.fieldLink "PromisesKept" (39 : Nat) "PromisesKept" "supposed" "LPromisesKept$Course;") ∈ lw_tbl := List.mem_of_getElem? (i := 266) (by decide +kernel)
theorem cw_267 : (Jvm.Cond.fieldLink "PromisesKept" (42 : Nat) "PromisesKept" "compared" "LPromisesKept$Course;") ∈ lw_tbl := List.mem_of_getElem? (i := 267) (by decide +kernel)
theorem cw_268 : (Jvm.Cond.fieldLink "PromisesKept" (47 : Nat) "PromisesKept" "sheets" "[LPromisesKept$Sheet;") ∈ lw_tbl := List.mem_of_getElem? (i := 268) (by decide +kernel)
theorem cw_269 : (Jvm.Cond.fieldLink "PromisesKept" (51 : Nat) "PromisesKept" "stale" "Z") ∈ lw_tbl := List.mem_of_getElem? (i := 269) (by decide +kernel)
theorem cw_270 : (Jvm.Cond.fieldLink "PromisesKept" (55 : Nat) "PromisesKept" "finding" "I") ∈ lw_tbl := List.mem_of_getElem? (i := 270) (by decide +kernel)
theorem cw_775 : (Jvm.Cond.methodLink "PromisesKeptModel" (1 : Nat) ({ cls := "java/lang/Object", name := "<init>", desc := "()V" } : Jvm.MethodName)) ∈ lw_tbl := List.mem_of_getElem? (i := 775) (by decide +kernel)
theorem cw_776 : (Jvm.Cond.fieldLink "PromisesKeptModel" (7 : Nat) "PromisesKeptModel" "text" "[I") ∈ lw_tbl := List.mem_of_getElem? (i := 776) (by decide +kernel)
theorem cw_779 : (Jvm.Cond.fieldLink "PromisesKeptModel" (13 : Nat) "PromisesKeptModel" "numbers" "[I") ∈ lw_tbl := List.mem_of_getElem? (i := 779) (by decide +kernel)
theorem cw_780 : (Jvm.Cond.fieldLink "PromisesKeptModel" (83 : Nat) "PromisesKeptModel" "slots" "I") ∈ lw_tbl := List.mem_of_getElem? (i := 780) (by decide +kernel)
theorem cw_782 : (Jvm.Cond.fieldLink "PromisesKeptModel" (16 : Nat) "PromisesKeptModel" "meansFirst" "[I") ∈ lw_tbl := List.mem_of_getElem? (i := 782) (by decide +kernel)
theorem cw_783 : (Jvm.Cond.fieldLink "PromisesKeptModel" (19 : Nat) "PromisesKeptModel" "trustFirst" "[I") ∈ lw_tbl := List.mem_of_getElem? (i := 783) (by decide +kernel)
theorem cw_784 : (Jvm.Cond.fieldLink "PromisesKeptModel" (22 : Nat) "PromisesKeptModel" "afters" "[I") ∈ lw_tbl := List.mem_of_getElem? (i := 784) (by decide +kernel)
theorem cw_786 : (Jvm.Cond.fieldLink "PromisesKeptModel" (25 : Nat) "PromisesKeptModel" "forgiveDay" "[I") ∈ lw_tbl := List.mem_of_getElem? (i := 786) (by decide +kernel)
theorem cw_787 : (Jvm.Cond.fieldLink "PromisesKeptModel" (28 : Nat) "PromisesKeptModel" "forgiveWant" "[I") ∈ lw_tbl := List.mem_of_getElem? (i := 787) (by decide +kernel)
theorem cw_788 : (Jvm.Cond.fieldLink "PromisesKeptModel" (31 : Nat) "PromisesKeptModel" "madeOn" "[I") ∈ lw_tbl := List.mem_of_getElem? (i := 788) (by decide +kernel)
theorem cw_789 : (Jvm.Cond.fieldLink "PromisesKeptModel" (34 : Nat) "PromisesKeptModel" "endedOn" "[I") ∈ lw_tbl := List.mem_of_getElem? (i := 789) (by decide +kernel)
theorem cw_790 : (Jvm.Cond.fieldLink "PromisesKeptModel" (37 : Nat) "PromisesKeptModel" "hows" "[I") ∈ lw_tbl := List.mem_of_getElem? (i := 790) (by decide +kernel)
theorem cw_791 : (Jvm.Cond.fieldLink "PromisesKeptModel" (40 : Nat) "PromisesKeptModel" "left" "[I") ∈ lw_tbl := List.mem_of_getElem? (i := 791) (by decide +kernel)
theorem cw_792 : (Jvm.Cond.fieldLink "PromisesKeptModel" (43 : Nat) "PromisesKeptModel" "trusts" "[I") ∈ lw_tbl := List.mem_of_getElem? (i := 792) (by decide +kernel)
theorem cw_793 : (Jvm.Cond.fieldLink "PromisesKeptModel" (46 : Nat) "PromisesKeptModel" "heldBy" "[I") ∈ lw_tbl := List.mem_of_getElem? (i := 793) (by decide +kernel)
theorem cw_794 : (Jvm.Cond.fieldLink "PromisesKeptModel" (49 : Nat) "PromisesKeptModel" "losses" "[I") ∈ lw_tbl := List.mem_of_getElem? (i := 794) (by decide +kernel)
theorem cw_795 : (Jvm.Cond.fieldLink "PromisesKeptModel" (52 : Nat) "PromisesKeptModel" "depths" "[I") ∈ lw_tbl := List.mem_of_getElem? (i := 795) (by decide +kernel)
theorem cw_797 : (Jvm.Cond.fieldLink "PromisesKeptModel" (55 : Nat) "PromisesKeptModel" "seenDay" "[I") ∈ lw_tbl := List.mem_of_getElem? (i := 797) (by decide +kernel)
theorem cw_798 : (Jvm.Cond.fieldLink "PromisesKeptModel" (58 : Nat) "PromisesKeptModel" "seenWant" "[I") ∈ lw_tbl := List.mem_of_getElem? (i := 798) (by decide +kernel)
theorem cw_799 : (Jvm.Cond.fieldLink "PromisesKeptModel" (61 : Nat) "PromisesKeptModel" "seenIs" "[I") ∈ lw_tbl := List.mem_of_getElem? (i := 799) (by decide +kernel)
theorem cw_800 : (Jvm.Cond.fieldLink "PromisesKeptModel" (64 : Nat) "PromisesKeptModel" "otherHeld" "[I") ∈ lw_tbl := List.mem_of_getElem? (i := 800) (by decide +kernel)
theorem cw_801 : (Jvm.Cond.fieldLink "PromisesKeptModel" (67 : Nat) "PromisesKeptModel" "isThere" "[Z") ∈ lw_tbl := List.mem_of_getElem? (i := 801) (by decide +kernel)
theorem cw_802 : (Jvm.Cond.fieldLink "PromisesKeptModel" (71 : Nat) "PromisesKeptModel" "forms" "[I") ∈ lw_tbl := List.mem_of_getElem? (i := 802) (by decide +kernel)
theorem cw_803 : (Jvm.Cond.fieldLink "PromisesKeptModel" (74 : Nat) "PromisesKeptModel" "sizes" "[I") ∈ lw_tbl := List.mem_of_getElem? (i := 803) (by decide +kernel)
theorem cw_804 : (Jvm.Cond.fieldLink "PromisesKeptModel" (77 : Nat) "PromisesKeptModel" "items" "[I") ∈ lw_tbl := List.mem_of_getElem? (i := 804) (by decide +kernel)
theorem cw_805 : (Jvm.Cond.fieldLink "PromisesKeptModel" (80 : Nat) "PromisesKeptModel" "moved" "[I") ∈ lw_tbl := List.mem_of_getElem? (i := 805) (by decide +kernel)
theorem cw_obj : Cond.code Lib.objectInit ⟨#[0xb1]⟩ 1 none ∈ lw_tbl := List.mem_of_getElem? (i := 83) (by decide +kernel)
abbrev cX2_init : ByteArray := prog_4_method_1_code
def yX2_init : MethodName := ⟨RX2, "<init>", "()V"⟩
def mm_Notes : am_MI := (yX2_init, cX2_init, 1, none, 2, false, 0)
theorem dz_Notes_0 : decode cX2_init 0 = .ok (.aload_n 0, 1) := by decide +kernel
theorem dz_Notes_1 : decode cX2_init 1 = .ok (.invokespecial 3, 3) := by decide +kernel
theorem dz_Notes_4 : decode cX2_init 4 = .ok (.aload_n 0, 1) := by decide +kernel
theorem dz_Notes_5 : decode cX2_init 5 = .ok (.bipush 8, 2) := by decide +kernel
theorem dz_Notes_7 : decode cX2_init 7 = .ok (.newarray .int, 2) := by decide +kernel
theorem dz_Notes_9 : decode cX2_init 9 = .ok (.putfield 9, 3) := by decide +kernel
theorem dz_Notes_12 : decode cX2_init 12 = .ok (.aload_n 0, 1) := by decide +kernel
theorem dz_Notes_13 : decode cX2_init 13 = .ok (.bipush 8, 2) := by decide +kernel
theorem dz_Notes_15 : decode cX2_init 15 = .ok (.newarray .int, 2) := by decide +kernel
theorem dz_Notes_17 : decode cX2_init 17 = .ok (.putfield 15, 3) := by decide +kernel
theorem dz_Notes_20 : decode cX2_init 20 = .ok (.aload_n 0, 1) := by decide +kernel
theorem dz_Notes_21 : decode cX2_init 21 = .ok (.bipush 8, 2) := by decide +kernel
theorem dz_Notes_23 : decode cX2_init 23 = .ok (.newarray .int, 2) := by decide +kernel
theorem dz_Notes_25 : decode cX2_init 25 = .ok (.putfield 18, 3) := by decide +kernel
theorem dz_Notes_28 : decode cX2_init 28 = .ok (.aload_n 0, 1) := by decide +kernel
theorem dz_Notes_29 : decode cX2_init 29 = .ok (.iconst 0, 1) := by decide +kernel
theorem dz_Notes_30 : decode cX2_init 30 = .ok (.putfield 21, 3) := by decide +kernel
theorem dz_Notes_33 : decode cX2_init 33 = .ok (.return_, 1) := by decide +kernel
theorem cz_cw_Notes : am_cw mm_Notes ∈ lw_tbl := List.mem_of_getElem? (i := 142) (by decide +kernel)
theorem cz_ini_Notes : Cond.initialized mm_Notes.1.cls ∈ lw_tbl := List.mem_of_getElem? (i := 69) (by decide +kernel)
theorem cz_ins_Notes : Cond.instanceMethod mm_Notes.1 ∈ lw_tbl := List.mem_of_getElem? (i := 141) (by decide +kernel)
theorem cz_ds_Notes : mm_Notes.1.cls ≠ "java/lang/invoke/MethodHandle" ∧ mm_Notes.1.cls ≠ "java/lang/invoke/VarHandle" ∧ (parseMethodDescriptor mm_Notes.1.desc).map (fun d => d.parameters.length) = some 0 := by decide +kernel
theorem cz_df_Notes : ∀ j, j < 4 → defaultValue (tyX2 j) = vp_V [.null, .null, .null, .int 0] j := by decide +kernel
def kb_Notes (K : am_K3) (q : Nat) (u : Nat → Nat) : va_W := [(q, .inr (2, [.ref (u 1), .ref (u 2), .ref (u 3), .int 0])), (u 1, .inl (K.1, 8, .inl (fun _ => 0))), (u 2, .inl (K.1, 8, .inl (fun _ => 0))), (u 3, .inl (K.1, 8, .inl (fun _ => 0)))]
set_option maxHeartbeats 4000000 in
set_option maxRecDepth 100000 in
theorem cz_Notes (l : Launch) (D : va_G) (K : am_K3) (h0 : Nat) : cz_C l D K mm_Notes { frames := 1, cells := 3, slots := 24, locals := 12 } [.ref h0] (h0, .inr (2, [.null, .null, .null, .int 0])) (kb_Notes K h0) := by
  refine cz_of (by decide) rfl rfl (Nat.le_of_ble_eq_true rfl) ?_
  intro p e s m below meth c A ls hx hb hr hts hown hlocks hin hml hA hP hK hD hN hl
  have hb : c.code = cX2_init := hb
  have hml : c.maxLocals = 1 := hml
  have hown : s.vm.findClass RX2 = some m.cls := hown
  have hT : ∀ w ∈ lw_tbl, goodWord w = true → w ∈ am_ws mm_Notes := fun w h1 h2 => List.mem_cons_of_mem _ (am_gw_in h1 h2)
  have hS : va_S A s.heap s.heap [] := va_S.rf
  have hl : lv_has ls 1 [(0, .ref h0)] := hl
  have hP : va_P D vwCl [(h0, .inr (2, [.null, .null, .null, .int 0]))] s.heap := hP
  refine lv_aload_n hx hb dz_Notes_0 rfl (lv_at hl 0 rfl) ?_
  refine W.objInit hx hb hown (hts (.methodLink RX2 3 Lib.objectInit) (hT _ cw_143 rfl)) (hts (.instanceMethod Lib.objectInit) (hT _ cw_82 rfl)) (hts (.code Lib.objectInit ⟨#[0xb1]⟩ 1 none) (hT _ cw_obj rfl)) rfl (by rw [hml]; exact hl.1) rfl dz_Notes_1 (Nat.le_of_ble_eq_true rfl) (Nat.le_of_ble_eq_true rfl) ?_
  refine W.eq (g2 := F0 m 4 ls []) rfl ?_
  refine lv_aload_n hx hb dz_Notes_4 rfl (lv_at hl 0 rfl) ?_
  refine lv_bipush (v := 8) hx hb dz_Notes_5 (by decide) ?_
  refine cz_newi (N' := 8) hx hb hts hT hK hP hD hS hA (by decide) (by decide) (by decide) (Nat.le_of_ble_eq_true rfl) (Nat.le_of_ble_eq_true rfl) dz_Notes_7 (fun q7 H hP hD hS => ?_)
  refine W.widen (k := 1) (n := 8) (Nat.le_refl _) (Nat.le_refl _) ?_
  have hP : va_P D vwCl ((h0, .inr (2, [.null, .null, .null, .int 0])) :: [(q7, .inl (K.1, 8, .inl (fun _ => 0)))]) H := hP
  have hD : va_D A ((h0, .inr (2, [.null, .null, .null, .int 0])) :: [(q7, .inl (K.1, 8, .inl (fun _ => 0)))]) := hD
  refine va_putF (D := D) (ci := 2) (v := .ref q7) (ty := .array .int) (C := RX2) (T := TX2) (N := 4) hx hb hts (cz_in hT (ci := 2) rfl) tyX2 tyX2_ok nmX2 hown hK hP hD hS 0 rfl rfl 0 (by decide) (hts (.fieldLink RX2 9 "PromisesKept$Notes" "days" "[I") (hT _ cw_144 rfl)) (fun _ h9 => h9) rfl hin rfl (by decide +kernel) (by first | rfl | decide) (by first | rfl | decide) (Nat.le_of_ble_eq_true rfl) dz_Notes_9 (fun H locs hP hD hS => ?_)
  have hP : va_P D vwCl ((h0, .inr (2, [.ref q7, .null, .null, .int 0])) :: [(q7, .inl (K.1, 8, .inl (fun _ => 0)))]) H := hP
  have hD : va_D A ((h0, .inr (2, [.ref q7, .null, .null, .int 0])) :: [(q7, .inl (K.1, 8, .inl (fun _ => 0)))]) := hD
  refine lv_aload_n hx hb dz_Notes_12 rfl (lv_at hl 0 rfl) ?_
  refine lv_bipush (v := 8) hx hb dz_Notes_13 (by decide) ?_
  refine cz_newi (N' := 8) hx hb hts hT hK hP hD hS hA (by decide) (by decide) (by decide) (Nat.le_of_ble_eq_true rfl) (Nat.le_of_ble_eq_true rfl) dz_Notes_15 (fun q15 H hP hD hS => ?_)
  refine W.widen (k := 2) (n := 16) (Nat.le_refl _) (Nat.le_refl _) ?_
  have hP : va_P D vwCl ((h0, .inr (2, [.ref q7, .null, .null, .int 0])) :: [(q7, .inl (K.1, 8, .inl (fun _ => 0))), (q15, .inl (K.1, 8, .inl (fun _ => 0)))]) H := hP
  have hD : va_D A ((h0, .inr (2, [.ref q7, .null, .null, .int 0])) :: [(q7, .inl (K.1, 8, .inl (fun _ => 0))), (q15, .inl (K.1, 8, .inl (fun _ => 0)))]) := hD
  refine va_putF (D := D) (ci := 2) (v := .ref q15) (ty := .array .int) (C := RX2) (T := TX2) (N := 4) hx hb hts (cz_in hT (ci := 2) rfl) tyX2 tyX2_ok nmX2 hown hK hP hD hS 0 rfl rfl 1 (by decide) (hts (.fieldLink RX2 15 "PromisesKept$Notes" "numbers" "[I") (hT _ cw_145 rfl)) (fun _ h9 => h9) rfl hin rfl (by decide +kernel) (by first | rfl | decide) (by first | rfl | decide) (Nat.le_of_ble_eq_true rfl) dz_Notes_17 (fun H locs hP hD hS => ?_)
  have hP : va_P D vwCl ((h0, .inr (2, [.ref q7, .ref q15, .null, .int 0])) :: [(q7, .inl (K.1, 8, .inl (fun _ => 0))), (q15, .inl (K.1, 8, .inl (fun _ => 0)))]) H := hP
  have hD : va_D A ((h0, .inr (2, [.ref q7, .ref q15, .null, .int 0])) :: [(q7, .inl (K.1, 8, .inl (fun _ => 0))), (q15, .inl (K.1, 8, .inl (fun _ => 0)))]) := hD
  refine lv_aload_n hx hb dz_Notes_20 rfl (lv_at hl 0 rfl) ?_
  refine lv_bipush (v := 8) hx hb dz_Notes_21 (by decide) ?_
  refine cz_newi (N' := 8) hx hb hts hT hK hP hD hS hA (by decide) (by decide) (by decide) (Nat.le_of_ble_eq_true rfl) (Nat.le_of_ble_eq_true rfl) dz_Notes_23 (fun q23 H hP hD hS => ?_)
  refine W.widen (k := 3) (n := 24) (Nat.le_refl _) (Nat.le_refl _) ?_
  have hP : va_P D vwCl ((h0, .inr (2, [.ref q7, .ref q15, .null, .int 0])) :: [(q7, .inl (K.1, 8, .inl (fun _ => 0))), (q15, .inl (K.1, 8, .inl (fun _ => 0))), (q23, .inl (K.1, 8, .inl (fun _ => 0)))]) H := hP
  have hD : va_D A ((h0, .inr (2, [.ref q7, .ref q15, .null, .int 0])) :: [(q7, .inl (K.1, 8, .inl (fun _ => 0))), (q15, .inl (K.1, 8, .inl (fun _ => 0))), (q23, .inl (K.1, 8, .inl (fun _ => 0)))]) := hD
  refine va_putF (D := D) (ci := 2) (v := .ref q23) (ty := .array .int) (C := RX2) (T := TX2) (N := 4) hx hb hts (cz_in hT (ci := 2) rfl) tyX2 tyX2_ok nmX2 hown hK hP hD hS 0 rfl rfl 2 (by decide) (hts (.fieldLink RX2 18 "PromisesKept$Notes" "values" "[I") (hT _ cw_146 rfl)) (fun _ h9 => h9) rfl hin rfl (by decide +kernel) (by first | rfl | decide) (by first | rfl | decide) (Nat.le_of_ble_eq_true rfl) dz_Notes_25 (fun H locs hP hD hS => ?_)
  have hP : va_P D vwCl ((h0, .inr (2, [.ref q7, .ref q15, .ref q23, .int 0])) :: [(q7, .inl (K.1, 8, .inl (fun _ => 0))), (q15, .inl (K.1, 8, .inl (fun _ => 0))), (q23, .inl (K.1, 8, .inl (fun _ => 0)))]) H := hP
  have hD : va_D A ((h0, .inr (2, [.ref q7, .ref q15, .ref q23, .int 0])) :: [(q7, .inl (K.1, 8, .inl (fun _ => 0))), (q15, .inl (K.1, 8, .inl (fun _ => 0))), (q23, .inl (K.1, 8, .inl (fun _ => 0)))]) := hD
  refine lv_aload_n hx hb dz_Notes_28 rfl (lv_at hl 0 rfl) ?_
  refine lv_iconst (v := 0) hx hb dz_Notes_29 (by decide) ?_
  refine va_put (D := D) (ci := 2) (v := .int 0) (ty := .int) (C := RX2) (T := TX2) (N := 4) hx hb hts (cz_in hT (ci := 2) rfl) tyX2 tyX2_ok nmX2 hown hK hP hD hS 0 rfl rfl 3 (by decide) (hts (.fieldLink RX2 21 "PromisesKept$Notes" "size" "I") (hT _ cw_147 rfl)) (fun _ h9 => h9) rfl (by decide +kernel) (by first | rfl | decide) (by first | rfl | decide) (Nat.le_of_ble_eq_true rfl) dz_Notes_30 (fun H locs hP hD hS => ?_)
  have hP : va_P D vwCl ((h0, .inr (2, [.ref q7, .ref q15, .ref q23, .int 0])) :: [(q7, .inl (K.1, 8, .inl (fun _ => 0))), (q15, .inl (K.1, 8, .inl (fun _ => 0))), (q23, .inl (K.1, 8, .inl (fun _ => 0)))]) H := hP
  have hD : va_D A ((h0, .inr (2, [.ref q7, .ref q15, .ref q23, .int 0])) :: [(q7, .inl (K.1, 8, .inl (fun _ => 0))), (q15, .inl (K.1, 8, .inl (fun _ => 0))), (q23, .inl (K.1, 8, .inl (fun _ => 0)))]) := hD
  exact W.vret hx hb hr (fun t ht hW => ⟨⟨(fun j => match j with | 1 => q7 | 2 => q15 | _ => q23), rfl, trivial, by rw [ht]; exact hP, hD⟩, hS.F ht⟩) hS.2.2 dz_Notes_33
abbrev cX3_init : ByteArray := prog_5_method_1_code
def yX3_init : MethodName := ⟨RX3, "<init>", "()V"⟩
def mm_Sheet : am_MI := (yX3_init, cX3_init, 1, none, 3, false, 0)
theorem dz_Sheet_0 : decode cX3_init 0 = .ok (.aload_n 0, 1) := by decide +kernel
theorem dz_Sheet_1 : decode cX3_init 1 = .ok (.invokespecial 3, 3) := by decide +kernel
theorem dz_Sheet_4 : decode cX3_init 4 = .ok (.aload_n 0, 1) := by decide +kernel
theorem dz_Sheet_5 : decode cX3_init 5 = .ok (.bipush 48, 2) := by decide +kernel
theorem dz_Sheet_7 : decode cX3_init 7 = .ok (.newarray .int, 2) := by decide +kernel
theorem dz_Sheet_9 : decode cX3_init 9 = .ok (.putfield 9, 3) := by decide +kernel
theorem dz_Sheet_12 : decode cX3_init 12 = .ok (.aload_n 0, 1) := by decide +kernel
theorem dz_Sheet_13 : decode cX3_init 13 = .ok (.iconst 1, 1) := by decide +kernel
theorem dz_Sheet_14 : decode cX3_init 14 = .ok (.putfield 15, 3) := by decide +kernel
theorem dz_Sheet_17 : decode cX3_init 17 = .ok (.aload_n 0, 1) := by decide +kernel
theorem dz_Sheet_18 : decode cX3_init 18 = .ok (.iconst 0, 1) := by decide +kernel
theorem dz_Sheet_19 : decode cX3_init 19 = .ok (.putfield 19, 3) := by decide +kernel
theorem dz_Sheet_22 : decode cX3_init 22 = .ok (.aload_n 0, 1) := by decide +kernel
theorem dz_Sheet_23 : decode cX3_init 23 = .ok (.iconst 0, 1) := by decide +kernel
theorem dz_Sheet_24 : decode cX3_init 24 = .ok (.putfield 23, 3) := by decide +kernel
theorem dz_Sheet_27 : decode cX3_init 27 = .ok (.return_, 1) := by decide +kernel
theorem cz_cw_Sheet : am_cw mm_Sheet ∈ lw_tbl := List.mem_of_getElem? (i := 244) (by decide +kernel)
theorem cz_ini_Sheet : Cond.initialized mm_Sheet.1.cls ∈ lw_tbl := List.mem_of_getElem? (i := 71) (by decide +kernel)
theorem cz_ins_Sheet : Cond.instanceMethod mm_Sheet.1 ∈ lw_tbl := List.mem_of_getElem? (i := 243) (by decide +kernel)
theorem cz_ds_Sheet : mm_Sheet.1.cls ≠ "java/lang/invoke/MethodHandle" ∧ mm_Sheet.1.cls ≠ "java/lang/invoke/VarHandle" ∧ (parseMethodDescriptor mm_Sheet.1.desc).map (fun d => d.parameters.length) = some 0 := by decide +kernel
theorem cz_df_Sheet : ∀ j, j < 4 → defaultValue (tyX3 j) = vp_V [.null, .int 0, .int 0, .int 0] j := by decide +kernel
def kb_Sheet (K : am_K3) (q : Nat) (u : Nat → Nat) : va_W := [(q, .inr (3, [.ref (u 1), .int 1, .int 0, .int 0])), (u 1, .inl (K.1, 48, .inl (fun _ => 0)))]
set_option maxHeartbeats 4000000 in
set_option maxRecDepth 100000 in
theorem cz_Sheet (l : Launch) (D : va_G) (K : am_K3) (h0 : Nat) : cz_C l D K mm_Sheet { frames := 1, cells := 1, slots := 48, locals := 12 } [.ref h0] (h0, .inr (3, [.null, .int 0, .int 0, .int 0])) (kb_Sheet K h0) := by
  refine cz_of (by decide) rfl rfl (Nat.le_of_ble_eq_true rfl) ?_
  intro p e s m below meth c A ls hx hb hr hts hown hlocks hin hml hA hP hK hD hN hl
  have hb : c.code = cX3_init := hb
  have hml : c.maxLocals = 1 := hml
  have hown : s.vm.findClass RX3 = some m.cls := hown
  have hT : ∀ w ∈ lw_tbl, goodWord w = true → w ∈ am_ws mm_Sheet := fun w h1 h2 => List.mem_cons_of_mem _ (am_gw_in h1 h2)
  have hS : va_S A s.heap s.heap [] := va_S.rf
  have hl : lv_has ls 1 [(0, .ref h0)] := hl
  have hP : va_P D vwCl [(h0, .inr (3, [.null, .int 0, .int 0, .int 0]))] s.heap := hP
  refine lv_aload_n hx hb dz_Sheet_0 rfl (lv_at hl 0 rfl) ?_
  refine W.objInit hx hb hown (hts (.methodLink RX3 3 Lib.objectInit) (hT _ cw_245 rfl)) (hts (.instanceMethod Lib.objectInit) (hT _ cw_82 rfl)) (hts (.code Lib.objectInit ⟨#[0xb1]⟩ 1 none) (hT _ cw_obj rfl)) rfl (by rw [hml]; exact hl.1) rfl dz_Sheet_1 (Nat.le_of_ble_eq_true rfl) (Nat.le_of_ble_eq_true rfl) ?_
  refine W.eq (g2 := F0 m 4 ls []) rfl ?_
  refine lv_aload_n hx hb dz_Sheet_4 rfl (lv_at hl 0 rfl) ?_
  refine lv_bipush (v := 48) hx hb dz_Sheet_5 (by decide) ?_
  refine cz_newi (N' := 48) hx hb hts hT hK hP hD hS hA (by decide) (by decide) (by decide) (Nat.le_of_ble_eq_true rfl) (Nat.le_of_ble_eq_true rfl) dz_Sheet_7 (fun q7 H hP hD hS => ?_)
  refine W.widen (k := 1) (n := 48) (Nat.le_refl _) (Nat.le_refl _) ?_
  have hP : va_P D vwCl ((h0, .inr (3, [.null, .int 0, .int 0, .int 0])) :: [(q7, .inl (K.1, 48, .inl (fun _ => 0)))]) H := hP
  have hD : va_D A ((h0, .inr (3, [.null, .int 0, .int 0, .int 0])) :: [(q7, .inl (K.1, 48, .inl (fun _ => 0)))]) := hD
  refine va_putF (D := D) (ci := 3) (v := .ref q7) (ty := .array .int) (C := RX3) (T := TX3) (N := 4) hx hb hts (cz_in hT (ci := 3) rfl) tyX3 tyX3_ok nmX3 hown hK hP hD hS 0 rfl rfl 0 (by decide) (hts (.fieldLink RX3 9 "PromisesKept$Sheet" "items" "[I") (hT _ cw_246 rfl)) (fun _ h9 => h9) rfl hin rfl (by decide +kernel) (by first | rfl | decide) (by first | rfl | decide) (Nat.le_of_ble_eq_true rfl) dz_Sheet_9 (fun H locs hP hD hS => ?_)
  have hP : va_P D vwCl ((h0, .inr (3, [.ref q7, .int 0, .int 0, .int 0])) :: [(q7, .inl (K.1, 48, .inl (fun _ => 0)))]) H := hP
  have hD : va_D A ((h0, .inr (3, [.ref q7, .int 0, .int 0, .int 0])) :: [(q7, .inl (K.1, 48, .inl (fun _ => 0)))]) := hD
  refine lv_aload_n hx hb dz_Sheet_12 rfl (lv_at hl 0 rfl) ?_
  refine lv_iconst (v := 1) hx hb dz_Sheet_13 (by decide) ?_
  refine va_put (D := D) (ci := 3) (v := .int 1) (ty := .boolean) (C := RX3) (T := TX3) (N := 4) hx hb hts (cz_in hT (ci := 3) rfl) tyX3 tyX3_ok nmX3 hown hK hP hD hS 0 rfl rfl 1 (by decide) (hts (.fieldLink RX3 15 "PromisesKept$Sheet" "lost" "Z") (hT _ cw_247 rfl)) (fun _ h9 => h9) rfl (by decide +kernel) (by first | rfl | decide) (by first | rfl | decide) (Nat.le_of_ble_eq_true rfl) dz_Sheet_14 (fun H locs hP hD hS => ?_)
  have hP : va_P D vwCl ((h0, .inr (3, [.ref q7, .int 1, .int 0, .int 0])) :: [(q7, .inl (K.1, 48, .inl (fun _ => 0)))]) H := hP
  have hD : va_D A ((h0, .inr (3, [.ref q7, .int 1, .int 0, .int 0])) :: [(q7, .inl (K.1, 48, .inl (fun _ => 0)))]) := hD
  refine lv_aload_n hx hb dz_Sheet_17 rfl (lv_at hl 0 rfl) ?_
  refine lv_iconst (v := 0) hx hb dz_Sheet_18 (by decide) ?_
  refine va_put (D := D) (ci := 3) (v := .int 0) (ty := .int) (C := RX3) (T := TX3) (N := 4) hx hb hts (cz_in hT (ci := 3) rfl) tyX3 tyX3_ok nmX3 hown hK hP hD hS 0 rfl rfl 2 (by decide) (hts (.fieldLink RX3 19 "PromisesKept$Sheet" "form" "I") (hT _ cw_249 rfl)) (fun _ h9 => h9) rfl (by decide +kernel) (by first | rfl | decide) (by first | rfl | decide) (Nat.le_of_ble_eq_true rfl) dz_Sheet_19 (fun H locs hP hD hS => ?_)
  have hP : va_P D vwCl ((h0, .inr (3, [.ref q7, .int 1, .int 0, .int 0])) :: [(q7, .inl (K.1, 48, .inl (fun _ => 0)))]) H := hP
  have hD : va_D A ((h0, .inr (3, [.ref q7, .int 1, .int 0, .int 0])) :: [(q7, .inl (K.1, 48, .inl (fun _ => 0)))]) := hD
  refine lv_aload_n hx hb dz_Sheet_22 rfl (lv_at hl 0 rfl) ?_
  refine lv_iconst (v := 0) hx hb dz_Sheet_23 (by decide) ?_
  refine va_put (D := D) (ci := 3) (v := .int 0) (ty := .int) (C := RX3) (T := TX3) (N := 4) hx hb hts (cz_in hT (ci := 3) rfl) tyX3 tyX3_ok nmX3 hown hK hP hD hS 0 rfl rfl 3 (by decide) (hts (.fieldLink RX3 23 "PromisesKept$Sheet" "size" "I") (hT _ cw_251 rfl)) (fun _ h9 => h9) rfl (by decide +kernel) (by first | rfl | decide) (by first | rfl | decide) (Nat.le_of_ble_eq_true rfl) dz_Sheet_24 (fun H locs hP hD hS => ?_)
  have hP : va_P D vwCl ((h0, .inr (3, [.ref q7, .int 1, .int 0, .int 0])) :: [(q7, .inl (K.1, 48, .inl (fun _ => 0)))]) H := hP
  have hD : va_D A ((h0, .inr (3, [.ref q7, .int 1, .int 0, .int 0])) :: [(q7, .inl (K.1, 48, .inl (fun _ => 0)))]) := hD
  exact W.vret hx hb hr (fun t ht hW => ⟨⟨(fun _ => q7), rfl, trivial, by rw [ht]; exact hP, hD⟩, hS.F ht⟩) hS.2.2 dz_Sheet_27
abbrev cX4_init : ByteArray := prog_6_method_1_code
def yX4_init : MethodName := ⟨RX4, "<init>", "()V"⟩
def mm_Wants : am_MI := (yX4_init, cX4_init, 1, none, 4, false, 0)
theorem dz_Wants_0 : decode cX4_init 0 = .ok (.aload_n 0, 1) := by decide +kernel
theorem dz_Wants_1 : decode cX4_init 1 = .ok (.invokespecial 3, 3) := by decide +kernel
theorem dz_Wants_4 : decode cX4_init 4 = .ok (.aload_n 0, 1) := by decide +kernel
theorem dz_Wants_5 : decode cX4_init 5 = .ok (.bipush 80, 2) := by decide +kernel
theorem dz_Wants_7 : decode cX4_init 7 = .ok (.newarray .int, 2) := by decide +kernel
theorem dz_Wants_9 : decode cX4_init 9 = .ok (.putfield 9, 3) := by decide +kernel
theorem dz_Wants_12 : decode cX4_init 12 = .ok (.aload_n 0, 1) := by decide +kernel
theorem dz_Wants_13 : decode cX4_init 13 = .ok (.bipush 10, 2) := by decide +kernel
theorem dz_Wants_15 : decode cX4_init 15 = .ok (.newarray .int, 2) := by decide +kernel
theorem dz_Wants_17 : decode cX4_init 17 = .ok (.putfield 15, 3) := by decide +kernel
theorem dz_Wants_20 : decode cX4_init 20 = .ok (.aload_n 0, 1) := by decide +kernel
theorem dz_Wants_21 : decode cX4_init 21 = .ok (.bipush 10, 2) := by decide +kernel
theorem dz_Wants_23 : decode cX4_init 23 = .ok (.newarray .int, 2) := by decide +kernel
theorem dz_Wants_25 : decode cX4_init 25 = .ok (.putfield 18, 3) := by decide +kernel
theorem dz_Wants_28 : decode cX4_init 28 = .ok (.aload_n 0, 1) := by decide +kernel
theorem dz_Wants_29 : decode cX4_init 29 = .ok (.bipush 10, 2) := by decide +kernel
theorem dz_Wants_31 : decode cX4_init 31 = .ok (.newarray .int, 2) := by decide +kernel
theorem dz_Wants_33 : decode cX4_init 33 = .ok (.putfield 21, 3) := by decide +kernel
theorem dz_Wants_36 : decode cX4_init 36 = .ok (.aload_n 0, 1) := by decide +kernel
theorem dz_Wants_37 : decode cX4_init 37 = .ok (.bipush 10, 2) := by decide +kernel
theorem dz_Wants_39 : decode cX4_init 39 = .ok (.newarray .int, 2) := by decide +kernel
theorem dz_Wants_41 : decode cX4_init 41 = .ok (.putfield 24, 3) := by decide +kernel
theorem dz_Wants_44 : decode cX4_init 44 = .ok (.aload_n 0, 1) := by decide +kernel
theorem dz_Wants_45 : decode cX4_init 45 = .ok (.bipush 10, 2) := by decide +kernel
theorem dz_Wants_47 : decode cX4_init 47 = .ok (.newarray .int, 2) := by decide +kernel
theorem dz_Wants_49 : decode cX4_init 49 = .ok (.putfield 27, 3) := by decide +kernel
theorem dz_Wants_52 : decode cX4_init 52 = .ok (.aload_n 0, 1) := by decide +kernel
theorem dz_Wants_53 : decode cX4_init 53 = .ok (.iconst 0, 1) := by decide +kernel
theorem dz_Wants_54 : decode cX4_init 54 = .ok (.putfield 30, 3) := by decide +kernel
theorem dz_Wants_57 : decode cX4_init 57 = .ok (.aload_n 0, 1) := by decide +kernel
theorem dz_Wants_58 : decode cX4_init 58 = .ok (.iconst 0, 1) := by decide +kernel
theorem dz_Wants_59 : decode cX4_init 59 = .ok (.putfield 34, 3) := by decide +kernel
theorem dz_Wants_62 : decode cX4_init 62 = .ok (.aload_n 0, 1) := by decide +kernel
theorem dz_Wants_63 : decode cX4_init 63 = .ok (.iconst (-1), 1) := by decide +kernel
theorem dz_Wants_64 : decode cX4_init 64 = .ok (.putfield 37, 3) := by decide +kernel
theorem dz_Wants_67 : decode cX4_init 67 = .ok (.return_, 1) := by decide +kernel
theorem cz_cw_Wants : am_cw mm_Wants ∈ lw_tbl := List.mem_of_getElem? (i := 88) (by decide +kernel)
theorem cz_ini_Wants : Cond.initialized mm_Wants.1.cls ∈ lw_tbl := List.mem_of_getElem? (i := 67) (by decide +kernel)
theorem cz_ins_Wants : Cond.instanceMethod mm_Wants.1 ∈ lw_tbl := List.mem_of_getElem? (i := 87) (by decide +kernel)
theorem cz_ds_Wants : mm_Wants.1.cls ≠ "java/lang/invoke/MethodHandle" ∧ mm_Wants.1.cls ≠ "java/lang/invoke/VarHandle" ∧ (parseMethodDescriptor mm_Wants.1.desc).map (fun d => d.parameters.length) = some 0 := by decide +kernel
theorem cz_df_Wants : ∀ j, j < 9 → defaultValue (tyX4 j) = vp_V [.null, .null, .null, .null, .null, .null, .int 0, .int 0, .int 0] j := by decide +kernel
def kb_Wants (K : am_K3) (q : Nat) (u : Nat → Nat) : va_W := [(q, .inr (4, [.ref (u 1), .ref (u 2), .ref (u 3), .ref (u 4), .ref (u 5), .ref (u 6), .int 0, .int 0, .int (-1)])), (u 1, .inl (K.1, 80, .inl (fun _ => 0))), (u 2, .inl (K.1, 10, .inl (fun _ => 0))), (u 3, .inl (K.1, 10, .inl (fun _ => 0))), (u 4, .inl (K.1, 10, .inl (fun _ => 0))), (u 5, .inl (K.1, 10, .inl (fun _ => 0))), (u 6, .inl (K.1, 10, .inl (fun _ => 0)))]
set_option maxHeartbeats 4000000 in
set_option maxRecDepth 100000 in
theorem cz_Wants (l : Launch) (D : va_G) (K : am_K3) (h0 : Nat) : cz_C l D K mm_Wants { frames := 1, cells := 6, slots := 130, locals := 12 } [.ref h0] (h0, .inr (4, [.null, .null, .null, .null, .null, .null, .int 0, .int 0, .int 0])) (kb_Wants K h0) := by
  refine cz_of (by decide) rfl rfl (Nat.le_of_ble_eq_true rfl) ?_
  intro p e s m below meth c A ls hx hb hr hts hown hlocks hin hml hA hP hK hD hN hl
  have hb : c.code = cX4_init := hb
  have hml : c.maxLocals = 1 := hml
  have hown : s.vm.findClass RX4 = some m.cls := hown
  have hT : ∀ w ∈ lw_tbl, goodWord w = true → w ∈ am_ws mm_Wants := fun w h1 h2 => List.mem_cons_of_mem _ (am_gw_in h1 h2)
  have hS : va_S A s.heap s.heap [] := va_S.rf
  have hl : lv_has ls 1 [(0, .ref h0)] := hl
  have hP : va_P D vwCl [(h0, .inr (4, [.null, .null, .null, .null, .null, .null, .int 0, .int 0, .int 0]))] s.heap := hP
  refine lv_aload_n hx hb dz_Wants_0 rfl (lv_at hl 0 rfl) ?_
  refine W.objInit hx hb hown (hts (.methodLink RX4 3 Lib.objectInit) (hT _ cw_89 rfl)) (hts (.instanceMethod Lib.objectInit) (hT _ cw_82 rfl)) (hts (.code Lib.objectInit ⟨#[0xb1]⟩ 1 none) (hT _ cw_obj rfl)) rfl (by rw [hml]; exact hl.1) rfl dz_Wants_1 (Nat.le_of_ble_eq_true rfl) (Nat.le_of_ble_eq_true rfl) ?_
  refine W.eq (g2 := F0 m 4 ls []) rfl ?_
  refine lv_aload_n hx hb dz_Wants_4 rfl (lv_at hl 0 rfl) ?_
  refine lv_bipush (v := 80) hx hb dz_Wants_5 (by decide) ?_
  refine cz_newi (N' := 80) hx hb hts hT hK hP hD hS hA (by decide) (by decide) (by decide) (Nat.le_of_ble_eq_true rfl) (Nat.le_of_ble_eq_true rfl) dz_Wants_7 (fun q7 H hP hD hS => ?_)
  refine W.widen (k := 1) (n := 80) (Nat.le_refl _) (Nat.le_refl _) ?_
  have hP : va_P D vwCl ((h0, .inr (4, [.null, .null, .null, .null, .null, .null, .int 0, .int 0, .int 0])) :: [(q7, .inl (K.1, 80, .inl (fun _ => 0)))]) H := hP
  have hD : va_D A ((h0, .inr (4, [.null, .null, .null, .null, .null, .null, .int 0, .int 0, .int 0])) :: [(q7, .inl (K.1, 80, .inl (fun _ => 0)))]) := hD
  refine va_putF (D := D) (ci := 4) (v := .ref q7) (ty := .array .int) (C := RX4) (T := TX4) (N := 9) hx hb hts (cz_in hT (ci := 4) rfl) tyX4 tyX4_ok nmX4 hown hK hP hD hS 0 rfl rfl 0 (by decide) (hts (.fieldLink RX4 9 "PromisesKept$Wants" "bytes" "[I") (hT _ cw_90 rfl)) (fun _ h9 => h9) rfl hin rfl (by decide +kernel) (by first | rfl | decide) (by first | rfl | decide) (Nat.le_of_ble_eq_true rfl) dz_Wants_9 (fun H locs hP hD hS => ?_)
  have hP : va_P D vwCl ((h0, .inr (4, [.ref q7, .null, .null, .null, .null, .null, .int 0, .int 0, .int 0])) :: [(q7, .inl (K.1, 80, .inl (fun _ => 0)))]) H := hP
  have hD : va_D A ((h0, .inr (4, [.ref q7, .null, .null, .null, .null, .null, .int 0, .int 0, .int 0])) :: [(q7, .inl (K.1, 80, .inl (fun _ => 0)))]) := hD
  refine lv_aload_n hx hb dz_Wants_12 rfl (lv_at hl 0 rfl) ?_
  refine lv_bipush (v := 10) hx hb dz_Wants_13 (by decide) ?_
  refine cz_newi (N' := 10) hx hb hts hT hK hP hD hS hA (by decide) (by decide) (by decide) (Nat.le_of_ble_eq_true rfl) (Nat.le_of_ble_eq_true rfl) dz_Wants_15 (fun q15 H hP hD hS => ?_)
  refine W.widen (k := 2) (n := 90) (Nat.le_refl _) (Nat.le_refl _) ?_
  have hP : va_P D vwCl ((h0, .inr (4, [.ref q7, .null, .null, .null, .null, .null, .int 0, .int 0, .int 0])) :: [(q7, .inl (K.1, 80, .inl (fun _ => 0))), (q15, .inl (K.1, 10, .inl (fun _ => 0)))]) H := hP
  have hD : va_D A ((h0, .inr (4, [.ref q7, .null, .null, .null, .null, .null, .int 0, .int 0, .int 0])) :: [(q7, .inl (K.1, 80, .inl (fun _ => 0))), (q15, .inl (K.1, 10, .inl (fun _ => 0)))]) := hD
  refine va_putF (D := D) (ci := 4) (v := .ref q15) (ty := .array .int) (C := RX4) (T := TX4) (N := 9) hx hb hts (cz_in hT (ci := 4) rfl) tyX4 tyX4_ok nmX4 hown hK hP hD hS 0 rfl rfl 1 (by decide) (hts (.fieldLink RX4 15 "PromisesKept$Wants" "who" "[I") (hT _ cw_91 rfl)) (fun _ h9 => h9) rfl hin rfl (by decide +kernel) (by first | rfl | decide) (by first | rfl | decide) (Nat.le_of_ble_eq_true rfl) dz_Wants_17 (fun H locs hP hD hS => ?_)
  have hP : va_P D vwCl ((h0, .inr (4, [.ref q7, .ref q15, .null, .null, .null, .null, .int 0, .int 0, .int 0])) :: [(q7, .inl (K.1, 80, .inl (fun _ => 0))), (q15, .inl (K.1, 10, .inl (fun _ => 0)))]) H := hP
  have hD : va_D A ((h0, .inr (4, [.ref q7, .ref q15, .null, .null, .null, .null, .int 0, .int 0, .int 0])) :: [(q7, .inl (K.1, 80, .inl (fun _ => 0))), (q15, .inl (K.1, 10, .inl (fun _ => 0)))]) := hD
  refine lv_aload_n hx hb dz_Wants_20 rfl (lv_at hl 0 rfl) ?_
  refine lv_bipush (v := 10) hx hb dz_Wants_21 (by decide) ?_
  refine cz_newi (N' := 10) hx hb hts hT hK hP hD hS hA (by decide) (by decide) (by decide) (Nat.le_of_ble_eq_true rfl) (Nat.le_of_ble_eq_true rfl) dz_Wants_23 (fun q23 H hP hD hS => ?_)
  refine W.widen (k := 3) (n := 100) (Nat.le_refl _) (Nat.le_refl _) ?_
  have hP : va_P D vwCl ((h0, .inr (4, [.ref q7, .ref q15, .null, .null, .null, .null, .int 0, .int 0, .int 0])) :: [(q7, .inl (K.1, 80, .inl (fun _ => 0))), (q15, .inl (K.1, 10, .inl (fun _ => 0))), (q23, .inl (K.1, 10, .inl (fun _ => 0)))]) H := hP
  have hD : va_D A ((h0, .inr (4, [.ref q7, .ref q15, .null, .null, .null, .null, .int 0, .int 0, .int 0])) :: [(q7, .inl (K.1, 80, .inl (fun _ => 0))), (q15, .inl (K.1, 10, .inl (fun _ => 0))), (q23, .inl (K.1, 10, .inl (fun _ => 0)))]) := hD
  refine va_putF (D := D) (ci := 4) (v := .ref q23) (ty := .array .int) (C := RX4) (T := TX4) (N := 9) hx hb hts (cz_in hT (ci := 4) rfl) tyX4 tyX4_ok nmX4 hown hK hP hD hS 0 rfl rfl 2 (by decide) (hts (.fieldLink RX4 18 "PromisesKept$Wants" "to" "[I") (hT _ cw_94 rfl)) (fun _ h9 => h9) rfl hin rfl (by decide +kernel) (by first | rfl | decide) (by first | rfl | decide) (Nat.le_of_ble_eq_true rfl) dz_Wants_25 (fun H locs hP hD hS => ?_)
  have hP : va_P D vwCl ((h0, .inr (4, [.ref q7, .ref q15, .ref q23, .null, .null, .null, .int 0, .int 0, .int 0])) :: [(q7, .inl (K.1, 80, .inl (fun _ => 0))), (q15, .inl (K.1, 10, .inl (fun _ => 0))), (q23, .inl (K.1, 10, .inl (fun _ => 0)))]) H := hP
  have hD : va_D A ((h0, .inr (4, [.ref q7, .ref q15, .ref q23, .null, .null, .null, .int 0, .int 0, .int 0])) :: [(q7, .inl (K.1, 80, .inl (fun _ => 0))), (q15, .inl (K.1, 10, .inl (fun _ => 0))), (q23, .inl (K.1, 10, .inl (fun _ => 0)))]) := hD
  refine lv_aload_n hx hb dz_Wants_28 rfl (lv_at hl 0 rfl) ?_
  refine lv_bipush (v := 10) hx hb dz_Wants_29 (by decide) ?_
  refine cz_newi (N' := 10) hx hb hts hT hK hP hD hS hA (by decide) (by decide) (by decide) (Nat.le_of_ble_eq_true rfl) (Nat.le_of_ble_eq_true rfl) dz_Wants_31 (fun q31 H hP hD hS => ?_)
  refine W.widen (k := 4) (n := 110) (Nat.le_refl _) (Nat.le_refl _) ?_
  have hP : va_P D vwCl ((h0, .inr (4, [.ref q7, .ref q15, .ref q23, .null, .null, .null, .int 0, .int 0, .int 0])) :: [(q7, .inl (K.1, 80, .inl (fun _ => 0))), (q15, .inl (K.1, 10, .inl (fun _ => 0))), (q23, .inl (K.1, 10, .inl (fun _ => 0))), (q31, .inl (K.1, 10, .inl (fun _ => 0)))]) H := hP
  have hD : va_D A ((h0, .inr (4, [.ref q7, .ref q15, .ref q23, .null, .null, .null, .int 0, .int 0, .int 0])) :: [(q7, .inl (K.1, 80, .inl (fun _ => 0))), (q15, .inl (K.1, 10, .inl (fun _ => 0))), (q23, .inl (K.1, 10, .inl (fun _ => 0))), (q31, .inl (K.1, 10, .inl (fun _ => 0)))]) := hD
  refine va_putF (D := D) (ci := 4) (v := .ref q31) (ty := .array .int) (C := RX4) (T := TX4) (N := 9) hx hb hts (cz_in hT (ci := 4) rfl) tyX4 tyX4_ok nmX4 hown hK hP hD hS 0 rfl rfl 3 (by decide) (hts (.fieldLink RX4 21 "PromisesKept$Wants" "asked" "[I") (hT _ cw_96 rfl)) (fun _ h9 => h9) rfl hin rfl (by decide +kernel) (by first | rfl | decide) (by first | rfl | decide) (Nat.le_of_ble_eq_true rfl) dz_Wants_33 (fun H locs hP hD hS => ?_)
  have hP : va_P D vwCl ((h0, .inr (4, [.ref q7, .ref q15, .ref q23, .ref q31, .null, .null, .int 0, .int 0, .int 0])) :: [(q7, .inl (K.1, 80, .inl (fun _ => 0))), (q15, .inl (K.1, 10, .inl (fun _ => 0))), (q23, .inl (K.1, 10, .inl (fun _ => 0))), (q31, .inl (K.1, 10, .inl (fun _ => 0)))]) H := hP
  have hD : va_D A ((h0, .inr (4, [.ref q7, .ref q15, .ref q23, .ref q31, .null, .null, .int 0, .int 0, .int 0])) :: [(q7, .inl (K.1, 80, .inl (fun _ => 0))), (q15, .inl (K.1, 10, .inl (fun _ => 0))), (q23, .inl (K.1, 10, .inl (fun _ => 0))), (q31, .inl (K.1, 10, .inl (fun _ => 0)))]) := hD
  refine lv_aload_n hx hb dz_Wants_36 rfl (lv_at hl 0 rfl) ?_
  refine lv_bipush (v := 10) hx hb dz_Wants_37 (by decide) ?_
  refine cz_newi (N' := 10) hx hb hts hT hK hP hD hS hA (by decide) (by decide) (by decide) (Nat.le_of_ble_eq_true rfl) (Nat.le_of_ble_eq_true rfl) dz_Wants_39 (fun q39 H hP hD hS => ?_)
  refine W.widen (k := 5) (n := 120) (Nat.le_refl _) (Nat.le_refl _) ?_
  have hP : va_P D vwCl ((h0, .inr (4, [.ref q7, .ref q15, .ref q23, .ref q31, .null, .null, .int 0, .int 0, .int 0])) :: [(q7, .inl (K.1, 80, .inl (fun _ => 0))), (q15, .inl (K.1, 10, .inl (fun _ => 0))), (q23, .inl (K.1, 10, .inl (fun _ => 0))), (q31, .inl (K.1, 10, .inl (fun _ => 0))), (q39, .inl (K.1, 10, .inl (fun _ => 0)))]) H := hP
  have hD : va_D A ((h0, .inr (4, [.ref q7, .ref q15, .ref q23, .ref q31, .null, .null, .int 0, .int 0, .int 0])) :: [(q7, .inl (K.1, 80, .inl (fun _ => 0))), (q15, .inl (K.1, 10, .inl (fun _ => 0))), (q23, .inl (K.1, 10, .inl (fun _ => 0))), (q31, .inl (K.1, 10, .inl (fun _ => 0))), (q39, .inl (K.1, 10, .inl (fun _ => 0)))]) := hD
  refine va_putF (D := D) (ci := 4) (v := .ref q39) (ty := .array .int) (C := RX4) (T := TX4) (N := 9) hx hb hts (cz_in hT (ci := 4) rfl) tyX4 tyX4_ok nmX4 hown hK hP hD hS 0 rfl rfl 4 (by decide) (hts (.fieldLink RX4 24 "PromisesKept$Wants" "due" "[I") (hT _ cw_99 rfl)) (fun _ h9 => h9) rfl hin rfl (by decide +kernel) (by first | rfl | decide) (by first | rfl | decide) (Nat.le_of_ble_eq_true rfl) dz_Wants_41 (fun H locs hP hD hS => ?_)
  have hP : va_P D vwCl ((h0, .inr (4, [.ref q7, .ref q15, .ref q23, .ref q31, .ref q39, .null, .int 0, .int 0, .int 0])) :: [(q7, .inl (K.1, 80, .inl (fun _ => 0))), (q15, .inl (K.1, 10, .inl (fun _ => 0))), (q23, .inl (K.1, 10, .inl (fun _ => 0))), (q31, .inl (K.1, 10, .inl (fun _ => 0))), (q39, .inl (K.1, 10, .inl (fun _ => 0)))]) H := hP
  have hD : va_D A ((h0, .inr (4, [.ref q7, .ref q15, .ref q23, .ref q31, .ref q39, .null, .int 0, .int 0, .int 0])) :: [(q7, .inl (K.1, 80, .inl (fun _ => 0))), (q15, .inl (K.1, 10, .inl (fun _ => 0))), (q23, .inl (K.1, 10, .inl (fun _ => 0))), (q31, .inl (K.1, 10, .inl (fun _ => 0))), (q39, .inl (K.1, 10, .inl (fun _ => 0)))]) := hD
  refine lv_aload_n hx hb dz_Wants_44 rfl (lv_at hl 0 rfl) ?_
  refine lv_bipush (v := 10) hx hb dz_Wants_45 (by decide) ?_
  refine cz_newi (N' := 10) hx hb hts hT hK hP hD hS hA (by decide) (by decide) (by decide) (Nat.le_of_ble_eq_true rfl) (Nat.le_of_ble_eq_true rfl) dz_Wants_47 (fun q47 H hP hD hS => ?_)
  refine W.widen (k := 6) (n := 130) (Nat.le_refl _) (Nat.le_refl _) ?_
  have hP : va_P D vwCl ((h0, .inr (4, [.ref q7, .ref q15, .ref q23, .ref q31, .ref q39, .null, .int 0, .int 0, .int 0])) :: [(q7, .inl (K.1, 80, .inl (fun _ => 0))), (q15, .inl (K.1, 10, .inl (fun _ => 0))), (q23, .inl (K.1, 10, .inl (fun _ => 0))), (q31, .inl (K.1, 10, .inl (fun _ => 0))), (q39, .inl (K.1, 10, .inl (fun _ => 0))), (q47, .inl (K.1, 10, .inl (fun _ => 0)))]) H := hP
  have hD : va_D A ((h0, .inr (4, [.ref q7, .ref q15, .ref q23, .ref q31, .ref q39, .null, .int 0, .int 0, .int 0])) :: [(q7, .inl (K.1, 80, .inl (fun _ => 0))), (q15, .inl (K.1, 10, .inl (fun _ => 0))), (q23, .inl (K.1, 10, .inl (fun _ => 0))), (q31, .inl (K.1, 10, .inl (fun _ => 0))), (q39, .inl (K.1, 10, .inl (fun _ => 0))), (q47, .inl (K.1, 10, .inl (fun _ => 0)))]) := hD
  refine va_putF (D := D) (ci := 4) (v := .ref q47) (ty := .array .int) (C := RX4) (T := TX4) (N := 9) hx hb hts (cz_in hT (ci := 4) rfl) tyX4 tyX4_ok nmX4 hown hK hP hD hS 0 rfl rfl 5 (by decide) (hts (.fieldLink RX4 27 "PromisesKept$Wants" "worth" "[I") (hT _ cw_102 rfl)) (fun _ h9 => h9) rfl hin rfl (by decide +kernel) (by first | rfl | decide) (by first | rfl | decide) (Nat.le_of_ble_eq_true rfl) dz_Wants_49 (fun H locs hP hD hS => ?_)
  have hP : va_P D vwCl ((h0, .inr (4, [.ref q7, .ref q15, .ref q23, .ref q31, .ref q39, .ref q47, .int 0, .int 0, .int 0])) :: [(q7, .inl (K.1, 80, .inl (fun _ => 0))), (q15, .inl (K.1, 10, .inl (fun _ => 0))), (q23, .inl (K.1, 10, .inl (fun _ => 0))), (q31, .inl (K.1, 10, .inl (fun _ => 0))), (q39, .inl (K.1, 10, .inl (fun _ => 0))), (q47, .inl (K.1, 10, .inl (fun _ => 0)))]) H := hP
  have hD : va_D A ((h0, .inr (4, [.ref q7, .ref q15, .ref q23, .ref q31, .ref q39, .ref q47, .int 0, .int 0, .int 0])) :: [(q7, .inl (K.1, 80, .inl (fun _ => 0))), (q15, .inl (K.1, 10, .inl (fun _ => 0))), (q23, .inl (K.1, 10, .inl (fun _ => 0))), (q31, .inl (K.1, 10, .inl (fun _ => 0))), (q39, .inl (K.1, 10, .inl (fun _ => 0))), (q47, .inl (K.1, 10, .inl (fun _ => 0)))]) := hD
  refine lv_aload_n hx hb dz_Wants_52 rfl (lv_at hl 0 rfl) ?_
  refine lv_iconst (v := 0) hx hb dz_Wants_53 (by decide) ?_
  refine va_put (D := D) (ci := 4) (v := .int 0) (ty := .int) (C := RX4) (T := TX4) (N := 9) hx hb hts (cz_in hT (ci := 4) rfl) tyX4 tyX4_ok nmX4 hown hK hP hD hS 0 rfl rfl 6 (by decide) (hts (.fieldLink RX4 30 "PromisesKept$Wants" "length" "I") (hT _ cw_105 rfl)) (fun _ h9 => h9) rfl (by decide +kernel) (by first | rfl | decide) (by first | rfl | decide) (Nat.le_of_ble_eq_true rfl) dz_Wants_54 (fun H locs hP hD hS => ?_)
  have hP : va_P D vwCl ((h0, .inr (4, [.ref q7, .ref q15, .ref q23, .ref q31, .ref q39, .ref q47, .int 0, .int 0, .int 0])) :: [(q7, .inl (K.1, 80, .inl (fun _ => 0))), (q15, .inl (K.1, 10, .inl (fun _ => 0))), (q23, .inl (K.1, 10, .inl (fun _ => 0))), (q31, .inl (K.1, 10, .inl (fun _ => 0))), (q39, .inl (K.1, 10, .inl (fun _ => 0))), (q47, .inl (K.1, 10, .inl (fun _ => 0)))]) H := hP
  have hD : va_D A ((h0, .inr (4, [.ref q7, .ref q15, .ref q23, .ref q31, .ref q39, .ref q47, .int 0, .int 0, .int 0])) :: [(q7, .inl (K.1, 80, .inl (fun _ => 0))), (q15, .inl (K.1, 10, .inl (fun _ => 0))), (q23, .inl (K.1, 10, .inl (fun _ => 0))), (q31, .inl (K.1, 10, .inl (fun _ => 0))), (q39, .inl (K.1, 10, .inl (fun _ => 0))), (q47, .inl (K.1, 10, .inl (fun _ => 0)))]) := hD
  refine lv_aload_n hx hb dz_Wants_57 rfl (lv_at hl 0 rfl) ?_
  refine lv_iconst (v := 0) hx hb dz_Wants_58 (by decide) ?_
  refine va_put (D := D) (ci := 4) (v := .int 0) (ty := .int) (C := RX4) (T := TX4) (N := 9) hx hb hts (cz_in hT (ci := 4) rfl) tyX4 tyX4_ok nmX4 hown hK hP hD hS 0 rfl rfl 7 (by decide) (hts (.fieldLink RX4 34 "PromisesKept$Wants" "number" "I") (hT _ cw_107 rfl)) (fun _ h9 => h9) rfl (by decide +kernel) (by first | rfl | decide) (by first | rfl | decide) (Nat.le_of_ble_eq_true rfl) dz_Wants_59 (fun H locs hP hD hS => ?_)
  have hP : va_P D vwCl ((h0, .inr (4, [.ref q7, .ref q15, .ref q23, .ref q31, .ref q39, .ref q47, .int 0, .int 0, .int 0])) :: [(q7, .inl (K.1, 80, .inl (fun _ => 0))), (q15, .inl (K.1, 10, .inl (fun _ => 0))), (q23, .inl (K.1, 10, .inl (fun _ => 0))), (q31, .inl (K.1, 10, .inl (fun _ => 0))), (q39, .inl (K.1, 10, .inl (fun _ => 0))), (q47, .inl (K.1, 10, .inl (fun _ => 0)))]) H := hP
  have hD : va_D A ((h0, .inr (4, [.ref q7, .ref q15, .ref q23, .ref q31, .ref q39, .ref q47, .int 0, .int 0, .int 0])) :: [(q7, .inl (K.1, 80, .inl (fun _ => 0))), (q15, .inl (K.1, 10, .inl (fun _ => 0))), (q23, .inl (K.1, 10, .inl (fun _ => 0))), (q31, .inl (K.1, 10, .inl (fun _ => 0))), (q39, .inl (K.1, 10, .inl (fun _ => 0))), (q47, .inl (K.1, 10, .inl (fun _ => 0)))]) := hD
  refine lv_aload_n hx hb dz_Wants_62 rfl (lv_at hl 0 rfl) ?_
  refine lv_iconst (v := (-1)) hx hb dz_Wants_63 (by decide) ?_
  refine va_put (D := D) (ci := 4) (v := .int (-1)) (ty := .int) (C := RX4) (T := TX4) (N := 9) hx hb hts (cz_in hT (ci := 4) rfl) tyX4 tyX4_ok nmX4 hown hK hP hD hS 0 rfl rfl 8 (by decide) (hts (.fieldLink RX4 37 "PromisesKept$Wants" "faultAt" "I") (hT _ cw_110 rfl)) (fun _ h9 => h9) rfl (by decide +kernel) (by first | rfl | decide) (by first | rfl | decide) (Nat.le_of_ble_eq_true rfl) dz_Wants_64 (fun H locs hP hD hS => ?_)
  have hP : va_P D vwCl ((h0, .inr (4, [.ref q7, .ref q15, .ref q23, .ref q31, .ref q39, .ref q47, .int 0, .int 0, .int (-1)])) :: [(q7, .inl (K.1, 80, .inl (fun _ => 0))), (q15, .inl (K.1, 10, .inl (fun _ => 0))), (q23, .inl (K.1, 10, .inl (fun _ => 0))), (q31, .inl (K.1, 10, .inl (fun _ => 0))), (q39, .inl (K.1, 10, .inl (fun _ => 0))), (q47, .inl (K.1, 10, .inl (fun _ => 0)))]) H := hP
  have hD : va_D A ((h0, .inr (4, [.ref q7, .ref q15, .ref q23, .ref q31, .ref q39, .ref q47, .int 0, .int 0, .int (-1)])) :: [(q7, .inl (K.1, 80, .inl (fun _ => 0))), (q15, .inl (K.1, 10, .inl (fun _ => 0))), (q23, .inl (K.1, 10, .inl (fun _ => 0))), (q31, .inl (K.1, 10, .inl (fun _ => 0))), (q39, .inl (K.1, 10, .inl (fun _ => 0))), (q47, .inl (K.1, 10, .inl (fun _ => 0)))]) := hD
  exact W.vret hx hb hr (fun t ht hW => ⟨⟨(fun j => match j with | 1 => q7 | 2 => q15 | 3 => q23 | 4 => q31 | 5 => q39 | _ => q47), rfl, trivial, by rw [ht]; exact hP, hD⟩, hS.F ht⟩) hS.2.2 dz_Wants_67
abbrev cX1_init : ByteArray := prog_3_method_1_code
def yX1_init : MethodName := ⟨RX1, "<init>", "(LPromisesKept$Wants;LPromisesKept$Country;)V"⟩
def mm_Course : am_MI := (yX1_init, cX1_init, 3, none, 1, false, 2)
theorem dz_Course_0 : decode cX1_init 0 = .ok (.aload_n 0, 1) := by decide +kernel
theorem dz_Course_1 : decode cX1_init 1 = .ok (.invokespecial 3, 3) := by decide +kernel
theorem dz_Course_4 : decode cX1_init 4 = .ok (.aload_n 0, 1) := by decide +kernel
theorem dz_Course_5 : decode cX1_init 5 = .ok (.bipush 6, 2) := by decide +kernel
theorem dz_Course_7 : decode cX1_init 7 = .ok (.newarray .int, 2) := by decide +kernel
theorem dz_Course_9 : decode cX1_init 9 = .ok (.putfield 9, 3) := by decide +kernel
theorem dz_Course_12 : decode cX1_init 12 = .ok (.aload_n 0, 1) := by decide +kernel
theorem dz_Course_13 : decode cX1_init 13 = .ok (.bipush 6, 2) := by decide +kernel
theorem dz_Course_15 : decode cX1_init 15 = .ok (.newarray .int, 2) := by decide +kernel
theorem dz_Course_17 : decode cX1_init 17 = .ok (.putfield 15, 3) := by decide +kernel
theorem dz_Course_20 : decode cX1_init 20 = .ok (.aload_n 0, 1) := by decide +kernel
theorem dz_Course_21 : decode cX1_init 21 = .ok (.bipush 10, 2) := by decide +kernel
theorem dz_Course_23 : decode cX1_init 23 = .ok (.newarray .int, 2) := by decide +kernel
theorem dz_Course_25 : decode cX1_init 25 = .ok (.putfield 18, 3) := by decide +kernel
theorem dz_Course_28 : decode cX1_init 28 = .ok (.aload_n 0, 1) := by decide +kernel
theorem dz_Course_29 : decode cX1_init 29 = .ok (.bipush 10, 2) := by decide +kernel
theorem dz_Course_31 : decode cX1_init 31 = .ok (.newarray .int, 2) := by decide +kernel
theorem dz_Course_33 : decode cX1_init 33 = .ok (.putfield 21, 3) := by decide +kernel
theorem dz_Course_36 : decode cX1_init 36 = .ok (.aload_n 0, 1) := by decide +kernel
theorem dz_Course_37 : decode cX1_init 37 = .ok (.bipush 10, 2) := by decide +kernel
theorem dz_Course_39 : decode cX1_init 39 = .ok (.newarray .int, 2) := by decide +kernel
theorem dz_Course_41 : decode cX1_init 41 = .ok (.putfield 24, 3) := by decide +kernel
theorem dz_Course_44 : decode cX1_init 44 = .ok (.aload_n 0, 1) := by decide +kernel
theorem dz_Course_45 : decode cX1_init 45 = .ok (.iconst 0, 1) := by decide +kernel
theorem dz_Course_46 : decode cX1_init 46 = .ok (.putfield 27, 3) := by decide +kernel
theorem dz_Course_49 : decode cX1_init 49 = .ok (.aload_n 0, 1) := by decide +kernel
theorem dz_Course_50 : decode cX1_init 50 = .ok (.iconst 0, 1) := by decide +kernel
theorem dz_Course_51 : decode cX1_init 51 = .ok (.putfield 31, 3) := by decide +kernel
theorem dz_Course_54 : decode cX1_init 54 = .ok (.aload_n 0, 1) := by decide +kernel
theorem dz_Course_55 : decode cX1_init 55 = .ok (.iconst (-1), 1) := by decide +kernel
theorem dz_Course_56 : decode cX1_init 56 = .ok (.putfield 34, 3) := by decide +kernel
theorem dz_Course_59 : decode cX1_init 59 = .ok (.aload_n 0, 1) := by decide +kernel
theorem dz_Course_60 : decode cX1_init 60 = .ok (.iconst (-1), 1) := by decide +kernel
theorem dz_Course_61 : decode cX1_init 61 = .ok (.putfield 37, 3) := by decide +kernel
theorem dz_Course_64 : decode cX1_init 64 = .ok (.aload_n 0, 1) := by decide +kernel
theorem dz_Course_65 : decode cX1_init 65 = .ok (.iconst 0, 1) := by decide +kernel
theorem dz_Course_66 : decode cX1_init 66 = .ok (.putfield 40, 3) := by decide +kernel
theorem dz_Course_69 : decode cX1_init 69 = .ok (.aload_n 0, 1) := by decide +kernel
theorem dz_Course_70 : decode cX1_init 70 = .ok (.iconst 0, 1) := by decide +kernel
theorem dz_Course_71 : decode cX1_init 71 = .ok (.putfield 43, 3) := by decide +kernel
theorem dz_Course_74 : decode cX1_init 74 = .ok (.aload_n 0, 1) := by decide +kernel
theorem dz_Course_75 : decode cX1_init 75 = .ok (.iconst 0, 1) := by decide +kernel
theorem dz_Course_76 : decode cX1_init 76 = .ok (.putfield 46, 3) := by decide +kernel
theorem dz_Course_79 : decode cX1_init 79 = .ok (.aload_n 0, 1) := by decide +kernel
theorem dz_Course_80 : decode cX1_init 80 = .ok (.aload_n 1, 1) := by decide +kernel
theorem dz_Course_81 : decode cX1_init 81 = .ok (.putfield 49, 3) := by decide +kernel
theorem dz_Course_84 : decode cX1_init 84 = .ok (.aload_n 0, 1) := by decide +kernel
theorem dz_Course_85 : decode cX1_init 85 = .ok (.aload_n 2, 1) := by decide +kernel
theorem dz_Course_86 : decode cX1_init 86 = .ok (.putfield 53, 3) := by decide +kernel
theorem dz_Course_89 : decode cX1_init 89 = .ok (.return_, 1) := by decide +kernel
theorem cz_cw_Course : am_cw mm_Course ∈ lw_tbl := List.mem_of_getElem? (i := 191) (by decide +kernel)
theorem cz_ini_Course : Cond.initialized mm_Course.1.cls ∈ lw_tbl := List.mem_of_getElem? (i := 70) (by decide +kernel)
theorem cz_ins_Course : Cond.instanceMethod mm_Course.1 ∈ lw_tbl := List.mem_of_getElem? (i := 190) (by decide +kernel)
theorem cz_ds_Course : mm_Course.1.cls ≠ "java/lang/invoke/MethodHandle" ∧ mm_Course.1.cls ≠ "java/lang/invoke/VarHandle" ∧ (parseMethodDescriptor mm_Course.1.desc).map (fun d => d.parameters.length) = some 2 := by decide +kernel
theorem cz_df_Course : ∀ j, j < 14 → defaultValue (tyX1 j) = vp_V [.null, .null, .null, .null, .null, .null, .null, .int 0, .int 0, .int 0, .int 0, .int 0, .int 0, .int 0] j := by decide +kernel
def kb_Course (K : am_K3) (q : Nat) (wa : Nat) (ca : Nat) (u : Nat → Nat) : va_W := [(q, .inr (1, [.ref wa, .ref ca, .ref (u 3), .ref (u 4), .ref (u 5), .ref (u 6), .ref (u 7), .int 0, .int 0, .int (-1), .int (-1), .int 0, .int 0, .int 0])), (u 3, .inl (K.1, 6, .inl (fun _ => 0))), (u 4, .inl (K.1, 6, .inl (fun _ => 0))), (u 5, .inl (K.1, 10, .inl (fun _ => 0))), (u 6, .inl (K.1, 10, .inl (fun _ => 0))), (u 7, .inl (K.1, 10, .inl (fun _ => 0)))]
set_option maxHeartbeats 4000000 in
set_option maxRecDepth 100000 in
theorem cz_Course (l : Launch) (D : va_G) (K : am_K3) (h0 : Nat) (wa : Nat) (ca : Nat) : cz_C l D K mm_Course { frames := 1, cells := 5, slots := 42, locals := 12 } [.ref h0, .ref wa, .ref ca] (h0, .inr (1, [.null, .null, .null, .null, .null, .null, .null, .int 0, .int 0, .int 0, .int 0, .int 0, .int 0, .int 0])) (kb_Course K h0 wa ca) := by
  refine cz_of (by decide) rfl rfl (Nat.le_of_ble_eq_true rfl) ?_
  intro p e s m below meth c A ls hx hb hr hts hown hlocks hin hml hA hP hK hD hN hl
  have hb : c.code = cX1_init := hb
  have hml : c.maxLocals = 3 := hml
  have hown : s.vm.findClass RX1 = some m.cls := hown
  have hT : ∀ w ∈ lw_tbl, goodWord w = true → w ∈ am_ws mm_Course := fun w h1 h2 => List.mem_cons_of_mem _ (am_gw_in h1 h2)
  have hS : va_S A s.heap s.heap [] := va_S.rf
  have hl : lv_has ls 3 [(0, .ref h0), (1, .ref wa), (2, .ref ca)] := hl
  have hP : va_P D vwCl [(h0, .inr (1, [.null, .null, .null, .null, .null, .null, .null, .int 0, .int 0, .int 0, .int 0, .int 0, .int 0, .int 0]))] s.heap := hP
  refine lv_aload_n hx hb dz_Course_0 rfl (lv_at hl 0 rfl) ?_
  refine W.objInit hx hb hown (hts (.methodLink RX1 3 Lib.objectInit) (hT _ cw_192 rfl)) (hts (.instanceMethod Lib.objectInit) (hT _ cw_82 rfl)) (hts (.code Lib.objectInit ⟨#[0xb1]⟩ 1 none) (hT _ cw_obj rfl)) rfl (by rw [hml]; exact hl.1) rfl dz_Course_1 (Nat.le_of_ble_eq_true rfl) (Nat.le_of_ble_eq_true rfl) ?_
  refine W.eq (g2 := F0 m 4 ls []) rfl ?_
  refine lv_aload_n hx hb dz_Course_4 rfl (lv_at hl 0 rfl) ?_
  refine lv_bipush (v := 6) hx hb dz_Course_5 (by decide) ?_
  refine cz_newi (N' := 6) hx hb hts hT hK hP hD hS hA (by decide) (by decide) (by decide) (Nat.le_of_ble_eq_true rfl) (Nat.le_of_ble_eq_true rfl) dz_Course_7 (fun q7 H hP hD hS => ?_)
  refine W.widen (k := 1) (n := 6) (Nat.le_refl _) (Nat.le_refl _) ?_
  have hP : va_P D vwCl ((h0, .inr (1, [.null, .null, .null, .null, .null, .null, .null, .int 0, .int 0, .int 0, .int 0, .int 0, .int 0, .int 0])) :: [(q7, .inl (K.1, 6, .inl (fun _ => 0)))]) H := hP
  have hD : va_D A ((h0, .inr (1, [.null, .null, .null, .null, .null, .null, .null, .int 0, .int 0, .int 0, .int 0, .int 0, .int 0, .int 0])) :: [(q7, .inl (K.1, 6, .inl (fun _ => 0)))]) := hD
  refine va_putF (D := D) (ci := 1) (v := .ref q7) (ty := .array .int) (C := RX1) (T := TX1) (N := 14) hx hb hts (cz_in hT (ci := 1) rfl) tyX1 tyX1_ok nmX1 hown hK hP hD hS 0 rfl rfl 2 (by decide) (hts (.fieldLink RX1 9 "PromisesKept$Course" "trust" "[I") (hT _ cw_195 rfl)) (fun _ h9 => h9) rfl hin rfl (by decide +kernel) (by first | rfl | decide) (by first | rfl | decide) (Nat.le_of_ble_eq_true rfl) dz_Course_9 (fun H locs hP hD hS => ?_)
  have hP : va_P D vwCl ((h0, .inr (1, [.null, .null, .ref q7, .null, .null, .null, .null, .int 0, .int 0, .int 0, .int 0, .int 0, .int 0, .int 0])) :: [(q7, .inl (K.1, 6, .inl (fun _ => 0)))]) H := hP
  have hD : va_D A ((h0, .inr (1, [.null, .null, .ref q7, .null, .null, .null, .null, .int 0, .int 0, .int 0, .int 0, .int 0, .int 0, .int 0])) :: [(q7, .inl (K.1, 6, .inl (fun _ => 0)))]) := hD
  refine lv_aload_n hx hb dz_Course_12 rfl (lv_at hl 0 rfl) ?_
  refine lv_bipush (v := 6) hx hb dz_Course_13 (by decide) ?_
  refine cz_newi (N' := 6) hx hb hts hT hK hP hD hS hA (by decide) (by decide) (by decide) (Nat.le_of_ble_eq_true rfl) (Nat.le_of_ble_eq_true rfl) dz_Course_15 (fun q15 H hP hD hS => ?_)
  refine W.widen (k := 2) (n := 12) (Nat.le_refl _) (Nat.le_refl _) ?_
  have hP : va_P D vwCl ((h0, .inr (1, [.null, .null, .ref q7, .null, .null, .null, .null, .int 0, .int 0, .int 0, .int 0, .int 0, .int 0, .int 0])) :: [(q7, .inl (K.1, 6, .inl (fun _ => 0))), (q15, .inl (K.1, 6, .inl (fun _ => 0)))]) H := hP
  have hD : va_D A ((h0, .inr (1, [.null, .null, .ref q7, .null, .null, .null, .null, .int 0, .int 0, .int 0, .int 0, .int 0, .int 0, .int 0])) :: [(q7, .inl (K.1, 6, .inl (fun _ => 0))), (q15, .inl (K.1, 6, .inl (fun _ => 0)))]) := hD
  refine va_putF (D := D) (ci := 1) (v := .ref q15) (ty := .array .int) (C := RX1) (T := TX1) (N := 14) hx hb hts (cz_in hT (ci := 1) rfl) tyX1 tyX1_ok nmX1 hown hK hP hD hS 0 rfl rfl 3 (by decide) (hts (.fieldLink RX1 15 "PromisesKept$Course" "means" "[I") (hT _ cw_196 rfl)) (fun _ h9 => h9) rfl hin rfl (by decide +kernel) (by first | rfl | decide) (by first | rfl | decide) (Nat.le_of_ble_eq_true rfl) dz_Course_17 (fun H locs hP hD hS => ?_)
  have hP : va_P D vwCl ((h0, .inr (1, [.null, .null, .ref q7, .ref q15, .null, .null, .null, .int 0, .int 0, .int 0, .int 0, .int 0, .int 0, .int 0])) :: [(q7, .inl (K.1, 6, .inl (fun _ => 0))), (q15, .inl (K.1, 6, .inl (fun _ => 0)))]) H := hP
  have hD : va_D A ((h0, .inr (1, [.null, .null, .ref q7, .ref q15, .null, .null, .null, .int 0, .int 0, .int 0, .int 0, .int 0, .int 0, .int 0])) :: [(q7, .inl (K.1, 6, .inl (fun _ => 0))), (q15, .inl (K.1, 6, .inl (fun _ => 0)))]) := hD
  refine lv_aload_n hx hb dz_Course_20 rfl (lv_at hl 0 rfl) ?_
  refine lv_bipush (v := 10) hx hb dz_Course_21 (by decide) ?_
  refine cz_newi (N' := 10) hx hb hts hT hK hP hD hS hA (by decide) (by decide) (by decide) (Nat.le_of_ble_eq_true rfl) (Nat.le_of_ble_eq_true rfl) dz_Course_23 (fun q23 H hP hD hS => ?_)
  refine W.widen (k := 3) (n := 22) (Nat.le_refl _) (Nat.le_refl _) ?_
  have hP : va_P D vwCl ((h0, .inr (1, [.null, .null, .ref q7, .ref q15, .null, .null, .null, .int 0, .int 0, .int 0, .int 0, .int 0, .int 0, .int 0])) :: [(q7, .inl (K.1, 6, .inl (fun _ => 0))), (q15, .inl (K.1, 6, .inl (fun _ => 0))), (q23, .inl (K.1, 10, .inl (fun _ => 0)))]) H := hP
  have hD : va_D A ((h0, .inr (1, [.null, .null, .ref q7, .ref q15, .null, .null, .null, .int 0, .int 0, .int 0, .int 0, .int 0, .int 0, .int 0])) :: [(q7, .inl (K.1, 6, .inl (fun _ => 0))), (q15, .inl (K.1, 6, .inl (fun _ => 0))), (q23, .inl (K.1, 10, .inl (fun _ => 0)))]) := hD
  refine va_putF (D := D) (ci := 1) (v := .ref q23) (ty := .array .int) (C := RX1) (T := TX1) (N := 14) hx hb hts (cz_in hT (ci := 1) rfl) tyX1 tyX1_ok nmX1 hown hK hP hD hS 0 rfl rfl 4 (by decide) (hts (.fieldLink RX1 18 "PromisesKept$Course" "madeOn" "[I") (hT _ cw_197 rfl)) (fun _ h9 => h9) rfl hin rfl (by decide +kernel) (by first | rfl | decide) (by first | rfl | decide) (Nat.le_of_ble_eq_true rfl) dz_Course_25 (fun H locs hP hD hS => ?_)
  have hP : va_P D vwCl ((h0, .inr (1, [.null, .null, .ref q7, .ref q15, .ref q23, .null, .null, .int 0, .int 0, .int 0, .int 0, .int 0, .int 0, .int 0])) :: [(q7, .inl (K.1, 6, .inl (fun _ => 0))), (q15, .inl (K.1, 6, .inl (fun _ => 0))), (q23, .inl (K.1, 10, .inl (fun _ => 0)))]) H := hP
  have hD : va_D A ((h0, .inr (1, [.null, .null, .ref q7, .ref q15, .ref q23, .null, .null, .int 0, .int 0, .int 0, .int 0, .int 0, .int 0, .int 0])) :: [(q7, .inl (K.1, 6, .inl (fun _ => 0))), (q15, .inl (K.1, 6, .inl (fun _ => 0))), (q23, .inl (K.1, 10, .inl (fun _ => 0)))]) := hD
  refine lv_aload_n hx hb dz_Course_28 rfl (lv_at hl 0 rfl) ?_
  refine lv_bipush (v := 10) hx hb dz_Course_29 (by decide) ?_
  refine cz_newi (N' := 10) hx hb hts hT hK hP hD hS hA (by decide) (by decide) (by decide) (Nat.le_of_ble_eq_true rfl) (Nat.le_of_ble_eq_true rfl) dz_Course_31 (fun q31 H hP hD hS => ?_)
  refine W.widen (k := 4) (n := 32) (Nat.le_refl _) (Nat.le_refl _) ?_
  have hP : va_P D vwCl ((h0, .inr (1, [.null, .null, .ref q7, .ref q15, .ref q23, .null, .null, .int 0, .int 0, .int 0, .int 0, .int 0, .int 0, .int 0])) :: [(q7, .inl (K.1, 6, .inl (fun _ => 0))), (q15, .inl (K.1, 6, .inl (fun _ => 0))), (q23, .inl (K.1, 10, .inl (fun _ => 0))), (q31, .inl (K.1, 10, .inl (fun _ => 0)))]) H := hP
  have hD : va_D A ((h0, .inr (1, [.null, .null, .ref q7, .ref q15, .ref q23, .null, .null, .int 0, .int 0, .int 0, .int 0, .int 0, .int 0, .int 0])) :: [(q7, .inl (K.1, 6, .inl (fun _ => 0))), (q15, .inl (K.1, 6, .inl (fun _ => 0))), (q23, .inl (K.1, 10, .inl (fun _ => 0))), (q31, .inl (K.1, 10, .inl (fun _ => 0)))]) := hD
  refine va_putF (D := D) (ci := 1) (v := .ref q31) (ty := .array .int) (C := RX1) (T := TX1) (N := 14) hx hb hts (cz_in hT (ci := 1) rfl) tyX1 tyX1_ok nmX1 hown hK hP hD hS 0 rfl rfl 5 (by decide) (hts (.fieldLink RX1 21 "PromisesKept$Course" "endedOn" "[I") (hT _ cw_198 rfl)) (fun _ h9 => h9) rfl hin rfl (by decide +kernel) (by first | rfl | decide) (by first | rfl | decide) (Nat.le_of_ble_eq_true rfl) dz_Course_33 (fun H locs hP hD hS => ?_)
  have hP : va_P D vwCl ((h0, .inr (1, [.null, .null, .ref q7, .ref q15, .ref q23, .ref q31, .null, .int 0, .int 0, .int 0, .int 0, .int 0, .int 0, .int 0])) :: [(q7, .inl (K.1, 6, .inl (fun _ => 0))), (q15, .inl (K.1, 6, .inl (fun _ => 0))), (q23, .inl (K.1, 10, .inl (fun _ => 0))), (q31, .inl (K.1, 10, .inl (fun _ => 0)))]) H := hP
  have hD : va_D A ((h0, .inr (1, [.null, .null, .ref q7, .ref q15, .ref q23, .ref q31, .null, .int 0, .int 0, .int 0, .int 0, .int 0, .int 0, .int 0])) :: [(q7, .inl (K.1, 6, .inl (fun _ => 0))), (q15, .inl (K.1, 6, .inl (fun _ => 0))), (q23, .inl (K.1, 10, .inl (fun _ => 0))), (q31, .inl (K.1, 10, .inl (fun _ => 0)))]) := hD
  refine lv_aload_n hx hb dz_Course_36 rfl (lv_at hl 0 rfl) ?_
  refine lv_bipush (v := 10) hx hb dz_Course_37 (by decide) ?_
  refine cz_newi (N' := 10) hx hb hts hT hK hP hD hS hA (by decide) (by decide) (by decide) (Nat.le_of_ble_eq_true rfl) (Nat.le_of_ble_eq_true rfl) dz_Course_39 (fun q39 H hP hD hS => ?_)
  refine W.widen (k := 5) (n := 42) (Nat.le_refl _) (Nat.le_refl _) ?_
  have hP : va_P D vwCl ((h0, .inr (1, [.null, .null, .ref q7, .ref q15, .ref q23, .ref q31, .null, .int 0, .int 0, .int 0, .int 0, .int 0, .int 0, .int 0])) :: [(q7, .inl (K.1, 6, .inl (fun _ => 0))), (q15, .inl (K.1, 6, .inl (fun _ => 0))), (q23, .inl (K.1, 10, .inl (fun _ => 0))), (q31, .inl (K.1, 10, .inl (fun _ => 0))), (q39, .inl (K.1, 10, .inl (fun _ => 0)))]) H := hP
  have hD : va_D A ((h0, .inr (1, [.null, .null, .ref q7, .ref q15, .ref q23, .ref q31, .null, .int 0, .int 0, .int 0, .int 0, .int 0, .int 0, .int 0])) :: [(q7, .inl (K.1, 6, .inl (fun _ => 0))), (q15, .inl (K.1, 6, .inl (fun _ => 0))), (q23, .inl (K.1, 10, .inl (fun _ => 0))), (q31, .inl (K.1, 10, .inl (fun _ => 0))), (q39, .inl (K.1, 10, .inl (fun _ => 0)))]) := hD
  refine va_putF (D := D) (ci := 1) (v := .ref q39) (ty := .array .int) (C := RX1) (T := TX1) (N := 14) hx hb hts (cz_in hT (ci := 1) rfl) tyX1 tyX1_ok nmX1 hown hK hP hD hS 0 rfl rfl 6 (by decide) (hts (.fieldLink RX1 24 "PromisesKept$Course" "ending" "[I") (hT _ cw_199 rfl)) (fun _ h9 => h9) rfl hin rfl (by decide +kernel) (by first | rfl | decide) (by first | rfl | decide) (Nat.le_of_ble_eq_true rfl) dz_Course_41 (fun H locs hP hD hS => ?_)
  have hP : va_P D vwCl ((h0, .inr (1, [.null, .null, .ref q7, .ref q15, .ref q23, .ref q31, .ref q39, .int 0, .int 0, .int 0, .int 0, .int 0, .int 0, .int 0])) :: [(q7, .inl (K.1, 6, .inl (fun _ => 0))), (q15, .inl (K.1, 6, .inl (fun _ => 0))), (q23, .inl (K.1, 10, .inl (fun _ => 0))), (q31, .inl (K.1, 10, .inl (fun _ => 0))), (q39, .inl (K.1, 10, .inl (fun _ => 0)))]) H := hP
  have hD : va_D A ((h0, .inr (1, [.null, .null, .ref q7, .ref q15, .ref q23, .ref q31, .ref q39, .int 0, .int 0, .int 0, .int 0, .int 0, .int 0, .int 0])) :: [(q7, .inl (K.1, 6, .inl (fun _ => 0))), (q15, .inl (K.1, 6, .inl (fun _ => 0))), (q23, .inl (K.1, 10, .inl (fun _ => 0))), (q31, .inl (K.1, 10, .inl (fun _ => 0))), (q39, .inl (K.1, 10, .inl (fun _ => 0)))]) := hD
  refine lv_aload_n hx hb dz_Course_44 rfl (lv_at hl 0 rfl) ?_
  refine lv_iconst (v := 0) hx hb dz_Course_45 (by decide) ?_
  refine va_put (D := D) (ci := 1) (v := .int 0) (ty := .int) (C := RX1) (T := TX1) (N := 14) hx hb hts (cz_in hT (ci := 1) rfl) tyX1 tyX1_ok nmX1 hown hK hP hD hS 0 rfl rfl 7 (by decide) (hts (.fieldLink RX1 27 "PromisesKept$Course" "law" "I") (hT _ cw_200 rfl)) (fun _ h9 => h9) rfl (by decide +kernel) (by first | rfl | decide) (by first | rfl | decide) (Nat.le_of_ble_eq_true rfl) dz_Course_46 (fun H locs hP hD hS => ?_)
  have hP : va_P D vwCl ((h0, .inr (1, [.null, .null, .ref q7, .ref q15, .ref q23, .ref q31, .ref q39, .int 0, .int 0, .int 0, .int 0, .int 0, .int 0, .int 0])) :: [(q7, .inl (K.1, 6, .inl (fun _ => 0))), (q15, .inl (K.1, 6, .inl (fun _ => 0))), (q23, .inl (K.1, 10, .inl (fun _ => 0))), (q31, .inl (K.1, 10, .inl (fun _ => 0))), (q39, .inl (K.1, 10, .inl (fun _ => 0)))]) H := hP
  have hD : va_D A ((h0, .inr (1, [.null, .null, .ref q7, .ref q15, .ref q23, .ref q31, .ref q39, .int 0, .int 0, .int 0, .int 0, .int 0, .int 0, .int 0])) :: [(q7, .inl (K.1, 6, .inl (fun _ => 0))), (q15, .inl (K.1, 6, .inl (fun _ => 0))), (q23, .inl (K.1, 10, .inl (fun _ => 0))), (q31, .inl (K.1, 10, .inl (fun _ => 0))), (q39, .inl (K.1, 10, .inl (fun _ => 0)))]) := hD
  refine lv_aload_n hx hb dz_Course_49 rfl (lv_at hl 0 rfl) ?_
  refine lv_iconst (v := 0) hx hb dz_Course_50 (by decide) ?_
  refine va_put (D := D) (ci := 1) (v := .int 0) (ty := .int) (C := RX1) (T := TX1) (N := 14) hx hb hts (cz_in hT (ci := 1) rfl) tyX1 tyX1_ok nmX1 hown hK hP hD hS 0 rfl rfl 8 (by decide) (hts (.fieldLink RX1 31 "PromisesKept$Course" "slots" "I") (hT _ cw_201 rfl)) (fun _ h9 => h9) rfl (by decide +kernel) (by first | rfl | decide) (by first | rfl | decide) (Nat.le_of_ble_eq_true rfl) dz_Course_51 (fun H locs hP hD hS => ?_)
  have hP : va_P D vwCl ((h0, .inr (1, [.null, .null, .ref q7, .ref q15, .ref q23, .ref q31, .ref q39, .int 0, .int 0, .int 0, .int 0, .int 0, .int 0, .int 0])) :: [(q7, .inl (K.1, 6, .inl (fun _ => 0))), (q15, .inl (K.1, 6, .inl (fun _ => 0))), (q23, .inl (K.1, 10, .inl (fun _ => 0))), (q31, .inl (K.1, 10, .inl (fun _ => 0))), (q39, .inl (K.1, 10, .inl (fun _ => 0)))]) H := hP
  have hD : va_D A ((h0, .inr (1, [.null, .null, .ref q7, .ref q15, .ref q23, .ref q31, .ref q39, .int 0, .int 0, .int 0, .int 0, .int 0, .int 0, .int 0])) :: [(q7, .inl (K.1, 6, .inl (fun _ => 0))), (q15, .inl (K.1, 6, .inl (fun _ => 0))), (q23, .inl (K.1, 10, .inl (fun _ => 0))), (q31, .inl (K.1, 10, .inl (fun _ => 0))), (q39, .inl (K.1, 10, .inl (fun _ => 0)))]) := hD
  refine lv_aload_n hx hb dz_Course_54 rfl (lv_at hl 0 rfl) ?_
  refine lv_iconst (v := (-1)) hx hb dz_Course_55 (by decide) ?_
  refine va_put (D := D) (ci := 1) (v := .int (-1)) (ty := .int) (C := RX1) (T := TX1) (N := 14) hx hb hts (cz_in hT (ci := 1) rfl) tyX1 tyX1_ok nmX1 hown hK hP hD hS 0 rfl rfl 9 (by decide) (hts (.fieldLink RX1 34 "PromisesKept$Course" "leftOut" "I") (hT _ cw_202 rfl)) (fun _ h9 => h9) rfl (by decide +kernel) (by first | rfl | decide) (by first | rfl | decide) (Nat.le_of_ble_eq_true rfl) dz_Course_56 (fun H locs hP hD hS => ?_)
  have hP : va_P D vwCl ((h0, .inr (1, [.null, .null, .ref q7, .ref q15, .ref q23, .ref q31, .ref q39, .int 0, .int 0, .int (-1), .int 0, .int 0, .int 0, .int 0])) :: [(q7, .inl (K.1, 6, .inl (fun _ => 0))), (q15, .inl (K.1, 6, .inl (fun _ => 0))), (q23, .inl (K.1, 10, .inl (fun _ => 0))), (q31, .inl (K.1, 10, .inl (fun _ => 0))), (q39, .inl (K.1, 10, .inl (fun _ => 0)))]) H := hP
  have hD : va_D A ((h0, .inr (1, [.null, .null, .ref q7, .ref q15, .ref q23, .ref q31, .ref q39, .int 0, .int 0, .int (-1), .int 0, .int 0, .int 0, .int 0])) :: [(q7, .inl (K.1, 6, .inl (fun _ => 0))), (q15, .inl (K.1, 6, .inl (fun _ => 0))), (q23, .inl (K.1, 10, .inl (fun _ => 0))), (q31, .inl (K.1, 10, .inl (fun _ => 0))), (q39, .inl (K.1, 10, .inl (fun _ => 0)))]) := hD
  refine lv_aload_n hx hb dz_Course_59 rfl (lv_at hl 0 rfl) ?_
  refine lv_iconst (v := (-1)) hx hb dz_Course_60 (by decide) ?_
  refine va_put (D := D) (ci := 1) (v := .int (-1)) (ty := .int) (C := RX1) (T := TX1) (N := 14) hx hb hts (cz_in hT (ci := 1) rfl) tyX1 tyX1_ok nmX1 hown hK hP hD hS 0 rfl rfl 10 (by decide) (hts (.fieldLink RX1 37 "PromisesKept$Course" "day" "I") (hT _ cw_203 rfl)) (fun _ h9 => h9) rfl (by decide +kernel) (by first | rfl | decide) (by first | rfl | decide) (Nat.le_of_ble_eq_true rfl) dz_Course_61 (fun H locs hP hD hS => ?_)
  have hP : va_P D vwCl ((h0, .inr (1, [.null, .null, .ref q7, .ref q15, .ref q23, .ref q31, .ref q39, .int 0, .int 0, .int (-1), .int (-1), .int 0, .int 0, .int 0])) :: [(q7, .inl (K.1, 6, .inl (fun _ => 0))), (q15, .inl (K.1, 6, .inl (fun _ => 0))), (q23, .inl (K.1, 10, .inl (fun _ => 0))), (q31, .inl (K.1, 10, .inl (fun _ => 0))), (q39, .inl (K.1, 10, .inl (fun _ => 0)))]) H := hP
  have hD : va_D A ((h0, .inr (1, [.null, .null, .ref q7, .ref q15, .ref q23, .ref q31, .ref q39, .int 0, .int 0, .int (-1), .int (-1), .int 0, .int 0, .int 0])) :: [(q7, .inl (K.1, 6, .inl (fun _ => 0))), (q15, .inl (K.1, 6, .inl (fun _ => 0))), (q23, .inl (K.1, 10, .inl (fun _ => 0))), (q31, .inl (K.1, 10, .inl (fun _ => 0))), (q39, .inl (K.1, 10, .inl (fun _ => 0)))]) := hD
  refine lv_aload_n hx hb dz_Course_64 rfl (lv_at hl 0 rfl) ?_
  refine lv_iconst (v := 0) hx hb dz_Course_65 (by decide) ?_
  refine va_put (D := D) (ci := 1) (v := .int 0) (ty := .int) (C := RX1) (T := TX1) (N := 14) hx hb hts (cz_in hT (ci := 1) rfl) tyX1 tyX1_ok nmX1 hown hK hP hD hS 0 rfl rfl 11 (by decide) (hts (.fieldLink RX1 40 "PromisesKept$Course" "heldBits" "I") (hT _ cw_205 rfl)) (fun _ h9 => h9) rfl (by decide +kernel) (by first | rfl | decide) (by first | rfl | decide) (Nat.le_of_ble_eq_true rfl) dz_Course_66 (fun H locs hP hD hS => ?_)
  have hP : va_P D vwCl ((h0, .inr (1, [.null, .null, .ref q7, .ref q15, .ref q23, .ref q31, .ref q39, .int 0, .int 0, .int (-1), .int (-1), .int 0, .int 0, .int 0])) :: [(q7, .inl (K.1, 6, .inl (fun _ => 0))), (q15, .inl (K.1, 6, .inl (fun _ => 0))), (q23, .inl (K.1, 10, .inl (fun _ => 0))), (q31, .inl (K.1, 10, .inl (fun _ => 0))), (q39, .inl (K.1, 10, .inl (fun _ => 0)))]) H := hP
  have hD : va_D A ((h0, .inr (1, [.null, .null, .ref q7, .ref q15, .ref q23, .ref q31, .ref q39, .int 0, .int 0, .int (-1), .int (-1), .int 0, .int 0, .int 0])) :: [(q7, .inl (K.1, 6, .inl (fun _ => 0))), (q15, .inl (K.1, 6, .inl (fun _ => 0))), (q23, .inl (K.1, 10, .inl (fun _ => 0))), (q31, .inl (K.1, 10, .inl (fun _ => 0))), (q39, .inl (K.1, 10, .inl (fun _ => 0)))]) := hD
  refine lv_aload_n hx hb dz_Course_69 rfl (lv_at hl 0 rfl) ?_
  refine lv_iconst (v := 0) hx hb dz_Course_70 (by decide) ?_
  refine va_put (D := D) (ci := 1) (v := .int 0) (ty := .int) (C := RX1) (T := TX1) (N := 14) hx hb hts (cz_in hT (ci := 1) rfl) tyX1 tyX1_ok nmX1 hown hK hP hD hS 0 rfl rfl 12 (by decide) (hts (.fieldLink RX1 43 "PromisesKept$Course" "waitingBits" "I") (hT _ cw_207 rfl)) (fun _ h9 => h9) rfl (by decide +kernel) (by first | rfl | decide) (by first | rfl | decide) (Nat.le_of_ble_eq_true rfl) dz_Course_71 (fun H locs hP hD hS => ?_)
  have hP : va_P D vwCl ((h0, .inr (1, [.null, .null, .ref q7, .ref q15, .ref q23, .ref q31, .ref q39, .int 0, .int 0, .int (-1), .int (-1), .int 0, .int 0, .int 0])) :: [(q7, .inl (K.1, 6, .inl (fun _ => 0))), (q15, .inl (K.1, 6, .inl (fun _ => 0))), (q23, .inl (K.1, 10, .inl (fun _ => 0))), (q31, .inl (K.1, 10, .inl (fun _ => 0))), (q39, .inl (K.1, 10, .inl (fun _ => 0)))]) H := hP
  have hD : va_D A ((h0, .inr (1, [.null, .null, .ref q7, .ref q15, .ref q23, .ref q31, .ref q39, .int 0, .int 0, .int (-1), .int (-1), .int 0, .int 0, .int 0])) :: [(q7, .inl (K.1, 6, .inl (fun _ => 0))), (q15, .inl (K.1, 6, .inl (fun _ => 0))), (q23, .inl (K.1, 10, .inl (fun _ => 0))), (q31, .inl (K.1, 10, .inl (fun _ => 0))), (q39, .inl (K.1, 10, .inl (fun _ => 0)))]) := hD
  refine lv_aload_n hx hb dz_Course_74 rfl (lv_at hl 0 rfl) ?_
  refine lv_iconst (v := 0) hx hb dz_Course_75 (by decide) ?_
  refine va_put (D := D) (ci := 1) (v := .int 0) (ty := .int) (C := RX1) (T := TX1) (N := 14) hx hb hts (cz_in hT (ci := 1) rfl) tyX1 tyX1_ok nmX1 hown hK hP hD hS 0 rfl rfl 13 (by decide) (hts (.fieldLink RX1 46 "PromisesKept$Course" "keptBits" "I") (hT _ cw_209 rfl)) (fun _ h9 => h9) rfl (by decide +kernel) (by first | rfl | decide) (by first | rfl | decide) (Nat.le_of_ble_eq_true rfl) dz_Course_76 (fun H locs hP hD hS => ?_)
  have hP : va_P D vwCl ((h0, .inr (1, [.null, .null, .ref q7, .ref q15, .ref q23, .ref q31, .ref q39, .int 0, .int 0, .int (-1), .int (-1), .int 0, .int 0, .int 0])) :: [(q7, .inl (K.1, 6, .inl (fun _ => 0))), (q15, .inl (K.1, 6, .inl (fun _ => 0))), (q23, .inl (K.1, 10, .inl (fun _ => 0))), (q31, .inl (K.1, 10, .inl (fun _ => 0))), (q39, .inl (K.1, 10, .inl (fun _ => 0)))]) H := hP
  have hD : va_D A ((h0, .inr (1, [.null, .null, .ref q7, .ref q15, .ref q23, .ref q31, .ref q39, .int 0, .int 0, .int (-1), .int (-1), .int 0, .int 0, .int 0])) :: [(q7, .inl (K.1, 6, .inl (fun _ => 0))), (q15, .inl (K.1, 6, .inl (fun _ => 0))), (q23, .inl (K.1, 10, .inl (fun _ => 0))), (q31, .inl (K.1, 10, .inl (fun _ => 0))), (q39, .inl (K.1, 10, .inl (fun _ => 0)))]) := hD
  refine lv_aload_n hx hb dz_Course_79 rfl (lv_at hl 0 rfl) ?_
  refine lv_aload_n hx hb dz_Course_80 rfl (lv_at hl 1 rfl) ?_
  refine va_putF (D := D) (ci := 1) (v := .ref wa) (ty := .object "PromisesKept$Wants") (C := RX1) (T := TX1) (N := 14) hx hb hts (cz_in hT (ci := 1) rfl) tyX1 tyX1_ok nmX1 hown hK hP hD hS 0 rfl rfl 0 (by decide) (hts (.fieldLink RX1 49 "PromisesKept$Course" "wants" "LPromisesKept$Wants;") (hT _ cw_193 rfl)) (fun _ h9 => h9) rfl hin rfl (by decide +kernel) (by first | rfl | decide) (by first | rfl | decide) (Nat.le_of_ble_eq_true rfl) dz_Course_81 (fun H locs hP hD hS => ?_)
  have hP : va_P D vwCl ((h0, .inr (1, [.ref wa, .null, .ref q7, .ref q15, .ref q23, .ref q31, .ref q39, .int 0, .int 0, .int (-1), .int (-1), .int 0, .int 0, .int 0])) :: [(q7, .inl (K.1, 6, .inl (fun _ => 0))), (q15, .inl (K.1, 6, .inl (fun _ => 0))), (q23, .inl (K.1, 10, .inl (fun _ => 0))), (q31, .inl (K.1, 10, .inl (fun _ => 0))), (q39, .inl (K.1, 10, .inl (fun _ => 0)))]) H := hP
  have hD : va_D A ((h0, .inr (1, [.ref wa, .null, .ref q7, .ref q15, .ref q23, .ref q31, .ref q39, .int 0, .int 0, .int (-1), .int (-1), .int 0, .int 0, .int 0])) :: [(q7, .inl (K.1, 6, .inl (fun _ => 0))), (q15, .inl (K.1, 6, .inl (fun _ => 0))), (q23, .inl (K.1, 10, .inl (fun _ => 0))), (q31, .inl (K.1, 10, .inl (fun _ => 0))), (q39, .inl (K.1, 10, .inl (fun _ => 0)))]) := hD
  refine lv_aload_n hx hb dz_Course_84 rfl (lv_at hl 0 rfl) ?_
  refine lv_aload_n hx hb dz_Course_85 rfl (lv_at hl 2 rfl) ?_
  refine va_putF (D := D) (ci := 1) (v := .ref ca) (ty := .object "PromisesKept$Country") (C := RX1) (T := TX1) (N := 14) hx hb hts (cz_in hT (ci := 1) rfl) tyX1 tyX1_ok nmX1 hown hK hP hD hS 0 rfl rfl 1 (by decide) (hts (.fieldLink RX1 53 "PromisesKept$Course" "country" "LPromisesKept$Country;") (hT _ cw_194 rfl)) (fun _ h9 => h9) rfl hin rfl (by decide +kernel) (by first | rfl | decide) (by first | rfl | decide) (Nat.le_of_ble_eq_true rfl) dz_Course_86 (fun H locs hP hD hS => ?_)
  have hP : va_P D vwCl ((h0, .inr (1, [.ref wa, .ref ca, .ref q7, .ref q15, .ref q23, .ref q31, .ref q39, .int 0, .int 0, .int (-1), .int (-1), .int 0, .int 0, .int 0])) :: [(q7, .inl (K.1, 6, .inl (fun _ => 0))), (q15, .inl (K.1, 6, .inl (fun _ => 0))), (q23, .inl (K.1, 10, .inl (fun _ => 0))), (q31, .inl (K.1, 10, .inl (fun _ => 0))), (q39, .inl (K.1, 10, .inl (fun _ => 0)))]) H := hP
  have hD : va_D A ((h0, .inr (1, [.ref wa, .ref ca, .ref q7, .ref q15, .ref q23, .ref q31, .ref q39, .int 0, .int 0, .int (-1), .int (-1), .int 0, .int 0, .int 0])) :: [(q7, .inl (K.1, 6, .inl (fun _ => 0))), (q15, .inl (K.1, 6, .inl (fun _ => 0))), (q23, .inl (K.1, 10, .inl (fun _ => 0))), (q31, .inl (K.1, 10, .inl (fun _ => 0))), (q39, .inl (K.1, 10, .inl (fun _ => 0)))]) := hD
  exact W.vret hx hb hr (fun t ht hW => ⟨⟨(fun j => match j with | 3 => q7 | 4 => q15 | 5 => q23 | 6 => q31 | _ => q39), rfl, trivial, by rw [ht]; exact hP, hD⟩, hS.F ht⟩) hS.2.2 dz_Course_89
