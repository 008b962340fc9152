theorem tw_84 : Cond.methodLink "FerryTimetable" 1 (⟨"java/lang/Object", "<init>", "()V"⟩ : MethodName) ∈ lw_g := fw_g (List.mem_of_getElem? (i := 84) (by decide +kernel)) (by decide +kernel)
theorem tw_85 : Cond.instanceMethod (⟨"java/lang/Object", "<init>", "()V"⟩ : MethodName) ∈ lw_g := fw_g (List.mem_of_getElem? (i := 85) (by decide +kernel)) (by decide +kernel)
theorem tw_86 : Cond.code (⟨"java/lang/Object", "<init>", "()V"⟩ : MethodName) object_method_1_code 1 none ∈ lw_g := fw_g (List.mem_of_getElem? (i := 86) (by decide +kernel)) (by decide +kernel)
theorem tw_87 : Cond.classLink "FerryTimetable" 7 "FerryTimetable$Port" ∈ lw_g := fw_g (List.mem_of_getElem? (i := 87) (by decide +kernel)) (by decide +kernel)
theorem tw_88 : Cond.instantiable "FerryTimetable$Port" 8 ∈ lw_g := fw_g (List.mem_of_getElem? (i := 88) (by decide +kernel)) (by decide +kernel)
theorem tw_89 : Cond.methodLink "FerryTimetable" 9 (⟨"FerryTimetable$Port", "<init>", "()V"⟩ : MethodName) ∈ lw_g := fw_g (List.mem_of_getElem? (i := 89) (by decide +kernel)) (by decide +kernel)
theorem tw_90 : Cond.instanceMethod (⟨"FerryTimetable$Port", "<init>", "()V"⟩ : MethodName) ∈ lw_g := fw_g (List.mem_of_getElem? (i := 90) (by decide +kernel)) (by decide +kernel)
theorem tw_91 : Cond.code (⟨"FerryTimetable$Port", "<init>", "()V"⟩ : MethodName) prog_5_method_1_code 1 none ∈ lw_g := fw_g (List.mem_of_getElem? (i := 91) (by decide +kernel)) (by decide +kernel)
theorem tw_92 : Cond.methodLink "FerryTimetable$Port" 3 (⟨"java/lang/Object", "<init>", "()V"⟩ : MethodName) ∈ lw_g := fw_g (List.mem_of_getElem? (i := 92) (by decide +kernel)) (by decide +kernel)
theorem tw_93 : Cond.classLink "FerryTimetable$Port" 9 "FerryTimetable$Table" ∈ lw_g := fw_g (List.mem_of_getElem? (i := 93) (by decide +kernel)) (by decide +kernel)
theorem tw_94 : Cond.instantiable "FerryTimetable$Table" 4 ∈ lw_g := fw_g (List.mem_of_getElem? (i := 94) (by decide +kernel)) (by decide +kernel)
theorem tw_95 : Cond.methodLink "FerryTimetable$Port" 11 (⟨"FerryTimetable$Table", "<init>", "(III)V"⟩ : MethodName) ∈ lw_g := fw_g (List.mem_of_getElem? (i := 95) (by decide +kernel)) (by decide +kernel)
theorem tw_96 : Cond.instanceMethod (⟨"FerryTimetable$Table", "<init>", "(III)V"⟩ : MethodName) ∈ lw_g := fw_g (List.mem_of_getElem? (i := 96) (by decide +kernel)) (by decide +kernel)
theorem tw_97 : Cond.code (⟨"FerryTimetable$Table", "<init>", "(III)V"⟩ : MethodName) prog_7_method_1_code 4 none ∈ lw_g := fw_g (List.mem_of_getElem? (i := 97) (by decide +kernel)) (by decide +kernel)
theorem tw_98 : Cond.methodLink "FerryTimetable$Table" 3 (⟨"java/lang/Object", "<init>", "()V"⟩ : MethodName) ∈ lw_g := fw_g (List.mem_of_getElem? (i := 98) (by decide +kernel)) (by decide +kernel)
theorem tw_112 : Cond.arrayClass Jvm.ClassFile.FieldType.int ∈ lw_g := fw_g (List.mem_of_getElem? (i := 112) (by decide +kernel)) (by decide +kernel)
theorem tw_150 : Cond.classLink "FerryTimetable" 22 "FerryTimetable$History" ∈ lw_g := fw_g (List.mem_of_getElem? (i := 150) (by decide +kernel)) (by decide +kernel)
theorem tw_151 : Cond.instantiable "FerryTimetable$History" 3 ∈ lw_g := fw_g (List.mem_of_getElem? (i := 151) (by decide +kernel)) (by decide +kernel)
theorem tw_152 : Cond.methodLink "FerryTimetable" 24 (⟨"FerryTimetable$History", "<init>", "()V"⟩ : MethodName) ∈ lw_g := fw_g (List.mem_of_getElem? (i := 152) (by decide +kernel)) (by decide +kernel)
theorem tw_153 : Cond.instanceMethod (⟨"FerryTimetable$History", "<init>", "()V"⟩ : MethodName) ∈ lw_g := fw_g (List.mem_of_getElem? (i := 153) (by decide +kernel)) (by decide +kernel)
theorem tw_154 : Cond.code (⟨"FerryTimetable$History", "<init>", "()V"⟩ : MethodName) prog_3_method_1_code 2 none ∈ lw_g := fw_g (List.mem_of_getElem? (i := 154) (by decide +kernel)) (by decide +kernel)
theorem tw_155 : Cond.methodLink "FerryTimetable$History" 3 (⟨"java/lang/Object", "<init>", "()V"⟩ : MethodName) ∈ lw_g := fw_g (List.mem_of_getElem? (i := 155) (by decide +kernel)) (by decide +kernel)
theorem tw_156 : Cond.classLink "FerryTimetable$History" 11 "FerryTimetable$Port" ∈ lw_g := fw_g (List.mem_of_getElem? (i := 156) (by decide +kernel)) (by decide +kernel)
theorem tw_158 : Cond.methodLink "FerryTimetable$History" 17 (⟨"FerryTimetable$Port", "<init>", "()V"⟩ : MethodName) ∈ lw_g := fw_g (List.mem_of_getElem? (i := 158) (by decide +kernel)) (by decide +kernel)
theorem tw_169 : Cond.classLink "FerryTimetable" 29 "FerryTimetable$Decisions" ∈ lw_g := fw_g (List.mem_of_getElem? (i := 169) (by decide +kernel)) (by decide +kernel)
theorem tw_170 : Cond.instantiable "FerryTimetable$Decisions" 6 ∈ lw_g := fw_g (List.mem_of_getElem? (i := 170) (by decide +kernel)) (by decide +kernel)
theorem tw_171 : Cond.methodLink "FerryTimetable" 31 (⟨"FerryTimetable$Decisions", "<init>", "()V"⟩ : MethodName) ∈ lw_g := fw_g (List.mem_of_getElem? (i := 171) (by decide +kernel)) (by decide +kernel)
theorem tw_172 : Cond.instanceMethod (⟨"FerryTimetable$Decisions", "<init>", "()V"⟩ : MethodName) ∈ lw_g := fw_g (List.mem_of_getElem? (i := 172) (by decide +kernel)) (by decide +kernel)
theorem tw_173 : Cond.code (⟨"FerryTimetable$Decisions", "<init>", "()V"⟩ : MethodName) prog_2_method_1_code 1 none ∈ lw_g := fw_g (List.mem_of_getElem? (i := 173) (by decide +kernel)) (by decide +kernel)
theorem tw_174 : Cond.methodLink "FerryTimetable$Decisions" 3 (⟨"java/lang/Object", "<init>", "()V"⟩ : MethodName) ∈ lw_g := fw_g (List.mem_of_getElem? (i := 174) (by decide +kernel)) (by decide +kernel)
theorem tw_197 : Cond.classLink "FerryTimetable" 36 "FerryTimetable$Loading" ∈ lw_g := fw_g (List.mem_of_getElem? (i := 197) (by decide +kernel)) (by decide +kernel)
theorem tw_198 : Cond.instantiable "FerryTimetable$Loading" 11 ∈ lw_g := fw_g (List.mem_of_getElem? (i := 198) (by decide +kernel)) (by decide +kernel)
theorem tw_199 : Cond.methodLink "FerryTimetable" 38 (⟨"FerryTimetable$Loading", "<init>", "()V"⟩ : MethodName) ∈ lw_g := fw_g (List.mem_of_getElem? (i := 199) (by decide +kernel)) (by decide +kernel)
theorem tw_200 : Cond.instanceMethod (⟨"FerryTimetable$Loading", "<init>", "()V"⟩ : MethodName) ∈ lw_g := fw_g (List.mem_of_getElem? (i := 200) (by decide +kernel)) (by decide +kernel)
theorem tw_201 : Cond.code (⟨"FerryTimetable$Loading", "<init>", "()V"⟩ : MethodName) prog_4_method_1_code 1 none ∈ lw_g := fw_g (List.mem_of_getElem? (i := 201) (by decide +kernel)) (by decide +kernel)
theorem tw_202 : Cond.methodLink "FerryTimetable$Loading" 3 (⟨"java/lang/Object", "<init>", "()V"⟩ : MethodName) ∈ lw_g := fw_g (List.mem_of_getElem? (i := 202) (by decide +kernel)) (by decide +kernel)
theorem tw_240 : Cond.classLink "FerryTimetable" 43 "FerryTimetable$Text" ∈ lw_g := fw_g (List.mem_of_getElem? (i := 240) (by decide +kernel)) (by decide +kernel)
theorem tw_241 : Cond.instantiable "FerryTimetable$Text" 5 ∈ lw_g := fw_g (List.mem_of_getElem? (i := 241) (by decide +kernel)) (by decide +kernel)
theorem tw_242 : Cond.methodLink "FerryTimetable" 45 (⟨"FerryTimetable$Text", "<init>", "()V"⟩ : MethodName) ∈ lw_g := fw_g (List.mem_of_getElem? (i := 242) (by decide +kernel)) (by decide +kernel)
theorem tw_243 : Cond.instanceMethod (⟨"FerryTimetable$Text", "<init>", "()V"⟩ : MethodName) ∈ lw_g := fw_g (List.mem_of_getElem? (i := 243) (by decide +kernel)) (by decide +kernel)
theorem tw_244 : Cond.code (⟨"FerryTimetable$Text", "<init>", "()V"⟩ : MethodName) prog_8_method_1_code 1 none ∈ lw_g := fw_g (List.mem_of_getElem? (i := 244) (by decide +kernel)) (by decide +kernel)
theorem tw_245 : Cond.methodLink "FerryTimetable$Text" 3 (⟨"java/lang/Object", "<init>", "()V"⟩ : MethodName) ∈ lw_g := fw_g (List.mem_of_getElem? (i := 245) (by decide +kernel)) (by decide +kernel)
theorem tw_246 : Cond.classLink "FerryTimetable$Text" 15 "FerryTimetable$Table" ∈ lw_g := fw_g (List.mem_of_getElem? (i := 246) (by decide +kernel)) (by decide +kernel)
theorem tw_247 : Cond.methodLink "FerryTimetable$Text" 17 (⟨"FerryTimetable$Table", "<init>", "(III)V"⟩ : MethodName) ∈ lw_g := fw_g (List.mem_of_getElem? (i := 247) (by decide +kernel)) (by decide +kernel)
theorem tw_266 : Cond.arrayClass Jvm.ClassFile.FieldType.char ∈ lw_g := fw_g (List.mem_of_getElem? (i := 266) (by decide +kernel)) (by decide +kernel)
theorem tw_267 : Cond.classLink "FerryTimetable" 50 "FerryTimetable$Shelf" ∈ lw_g := fw_g (List.mem_of_getElem? (i := 267) (by decide +kernel)) (by decide +kernel)
theorem tw_268 : Cond.instantiable "FerryTimetable$Shelf" 1 ∈ lw_g := fw_g (List.mem_of_getElem? (i := 268) (by decide +kernel)) (by decide +kernel)
theorem tw_269 : Cond.methodLink "FerryTimetable" 52 (⟨"FerryTimetable$Shelf", "<init>", "()V"⟩ : MethodName) ∈ lw_g := fw_g (List.mem_of_getElem? (i := 269) (by decide +kernel)) (by decide +kernel)
theorem tw_270 : Cond.instanceMethod (⟨"FerryTimetable$Shelf", "<init>", "()V"⟩ : MethodName) ∈ lw_g := fw_g (List.mem_of_getElem? (i := 270) (by decide +kernel)) (by decide +kernel)
theorem tw_271 : Cond.code (⟨"FerryTimetable$Shelf", "<init>", "()V"⟩ : MethodName) prog_6_method_1_code 2 none ∈ lw_g := fw_g (List.mem_of_getElem? (i := 271) (by decide +kernel)) (by decide +kernel)
theorem tw_272 : Cond.methodLink "FerryTimetable$Shelf" 3 (⟨"java/lang/Object", "<init>", "()V"⟩ : MethodName) ∈ lw_g := fw_g (List.mem_of_getElem? (i := 272) (by decide +kernel)) (by decide +kernel)
theorem tw_273 : Cond.classLink "FerryTimetable$Shelf" 9 "FerryTimetable$Table" ∈ lw_g := fw_g (List.mem_of_getElem? (i := 273) (by decide +kernel)) (by decide +kernel)
theorem tw_274 : Cond.methodLink "FerryTimetable$Shelf" 13 (⟨"FerryTimetable$Table", "<init>", "(III)V"⟩ : MethodName) ∈ lw_g := fw_g (List.mem_of_getElem? (i := 274) (by decide +kernel)) (by decide +kernel)
theorem tw_861 : Cond.methodLink "FerryTimetableModel" 1 (⟨"java/lang/Object", "<init>", "()V"⟩ : MethodName) ∈ lw_g := fw_g (List.mem_of_getElem? (i := 861) (by decide +kernel)) (by decide +kernel)
def xT (Γ : fGm) (r w : Nat) (n : Int32) (i : Nat) (u : Nat → Nat) : va_W := [(u i, .inr (5, [.int (Int32.ofNat r), .int (Int32.ofNat w), .ref (u (i + 1)), .int n])), (u (i + 1), .inl (Γ.2.1.1, r * w, .inl (fun _ => 0)))]
def xP (Γ : fGm) (i : Nat) (u : Nat → Nat) : va_W := (u i, .inr (3, [.ref (u (i + 1)), .ref (u (i + 3)), .ref (u (i + 5)), .ref (u (i + 7)), .ref (u (i + 9)), .ref (u (i + 11)), .ref (u (i + 13)), .int 50])) :: (xT Γ 4 4 0 (i + 1) u ++ xT Γ 3 2 0 (i + 3) u ++ xT Γ 12 4 0 (i + 5) u ++ xT Γ 24 3 0 (i + 7) u ++ xT Γ 8 4 0 (i + 9) u ++ xT Γ 49 1 49 (i + 11) u ++ xT Γ 48 1 48 (i + 13) u)
def xHi (Γ : fGm) (i : Nat) (u : Nat → Nat) : va_W := (u i, .inr (1, [.ref (u (i + 1)), .int 0, .int 0])) :: ([(u (i + 1), .inl (Γ.2.1.2.2, 6, .inr (.inr (.inr (.inr (va_up (va_up (va_up (va_up (va_up (va_up (fun _ => none) 0 (some (u (i + 2)))) 1 (some (u (i + 17)))) 2 (some (u (i + 32)))) 3 (some (u (i + 47)))) 4 (some (u (i + 62)))) 5 (some (u (i + 77)))))))))] ++ xP Γ (i + 2) u ++ xP Γ (i + 17) u ++ xP Γ (i + 32) u ++ xP Γ (i + 47) u ++ xP Γ (i + 62) u ++ xP Γ (i + 77) u)
def xDe (Γ : fGm) (i : Nat) (u : Nat → Nat) : va_W := (u i, .inr (0, [.ref (u (i + 1)), .ref (u (i + 2)), .ref (u (i + 3)), .ref (u (i + 4)), .ref (u (i + 5)), .ref (u (i + 6))])) :: ([(u (i + 1), .inl (Γ.2.1.1, 12, .inl (fun _ => 0)))] ++ [(u (i + 2), .inl (Γ.2.1.1, 12, .inl (fun _ => 0)))] ++ [(u (i + 3), .inl (Γ.2.1.1, 12, .inl (fun _ => 0)))] ++ [(u (i + 4), .inl (Γ.2.1.1, 12, .inl (fun _ => 0)))] ++ [(u (i + 5), .inl (Γ.2.1.1, 12, .inl (fun _ => 0)))] ++ [(u (i + 6), .inl (Γ.2.1.1, 8, .inl (fun _ => 0)))])
def xLo (Γ : fGm) (i : Nat) (u : Nat → Nat) : va_W := (u i, .inr (2, [.ref (u (i + 1)), .ref (u (i + 2)), .ref (u (i + 3)), .ref (u (i + 4)), .ref (u (i + 5)), .ref (u (i + 6)), .ref (u (i + 7)), .ref (u (i + 8)), .ref (u (i + 9)), .ref (u (i + 10)), .ref (u (i + 11))])) :: ([(u (i + 1), .inl (Γ.2.1.1, 12, .inl (fun _ => 0)))] ++ [(u (i + 2), .inl (Γ.2.1.1, 48, .inl (fun _ => 0)))] ++ [(u (i + 3), .inl (Γ.2.1.1, 24, .inl (fun _ => 0)))] ++ [(u (i + 4), .inl (Γ.2.1.1, 288, .inl (fun _ => 0)))] ++ [(u (i + 5), .inl (Γ.2.1.1, 48, .inl (fun _ => 0)))] ++ [(u (i + 6), .inl (Γ.2.1.1, 48, .inl (fun _ => 0)))] ++ [(u (i + 7), .inl (Γ.2.1.1, 24, .inl (fun _ => 0)))] ++ [(u (i + 8), .inl (Γ.2.1.1, 24, .inl (fun _ => 0)))] ++ [(u (i + 9), .inl (Γ.2.1.1, 24, .inl (fun _ => 0)))] ++ [(u (i + 10), .inl (Γ.2.1.1, 24, .inl (fun _ => 0)))] ++ [(u (i + 11), .inl (Γ.2.1.1, 4, .inl (fun _ => 0)))])
def xTx (Γ : fGm) (i : Nat) (u : Nat → Nat) : va_W := (u i, .inr (6, [.int 0, .int (-10004), .ref (u (i + 1)), .ref (u (i + 2)), .int 0])) :: ([(u (i + 1), .inl (Γ.2.1.2.1, 60, .inl (fun _ => 0)))] ++ xT Γ 12 6 0 (i + 2) u)
def xSh0 : Nat → Int32 := (upd (upd (upd (upd (upd (upd (upd (upd (upd (fun _ => 0) 4 (-10004)) 9 (-10004)) 14 (-10004)) 19 (-10004)) 24 (-10004)) 29 (-10004)) 34 (-10004)) 39 (-10004)) 44 (-10004))
def xSh (Γ : fGm) (i : Nat) (u : Nat → Nat) : va_W := [(u i, .inr (4, [.ref (u (i + 1))])), (u (i + 1), .inr (5, [.int (Int32.ofNat 9), .int (Int32.ofNat 5), .ref (u (i + 2)), .int 9])), (u (i + 2), .inl (Γ.2.1.1, 9 * 5, .inl xSh0))]
def xFT (Γ : fGm) (i : Nat) (u : Nat → Nat) : va_W := (u i, .inr (7, [.ref (u (i + 1)), .ref (u (i + 16)), .ref (u (i + 31)), .ref (u (i + 46)), .ref (u (i + 138)), .ref (u (i + 145)), .ref (u (i + 157)), .ref (u (i + 161)), .int 0])) :: (xP Γ (i + 1) u ++ xP Γ (i + 16) u ++ xP Γ (i + 31) u ++ xHi Γ (i + 46) u ++ xDe Γ (i + 138) u ++ xLo Γ (i + 145) u ++ xTx Γ (i + 157) u ++ xSh Γ (i + 161) u)
def xKi0 : Nat → Int32 := (upd (upd (upd (upd (upd (upd (upd (upd (upd (fun _ => 0) 0 (-1)) 1 (-1)) 2 (-1)) 3 (-1)) 4 (-1)) 5 (-1)) 6 (-1)) 7 (-1)) 8 (-1))
def xMo (Γ : fGm) (i : Nat) (u : Nat → Nat) : va_W := (u i, .inr (8, [.ref (u (i + 1)), .ref (u (i + 2)), .ref (u (i + 3)), .int 0, .ref (u (i + 4)), .int 0, .ref (u (i + 5)), .int 0, .int (-10004), .int 0, .int 0, .ref (u (i + 6)), .ref (u (i + 7)), .ref (u (i + 8)), .ref (u (i + 9)), .ref (u (i + 10)), .ref (u (i + 11)), .ref (u (i + 12)), .ref (u (i + 13)), .ref (u (i + 14)), .ref (u (i + 15)), .ref (u (i + 16)), .ref (u (i + 17)), .ref (u (i + 18)), .ref (u (i + 19)), .ref (u (i + 20)), .ref (u (i + 21)), .int 0, .ref (u (i + 22)), .ref (u (i + 23)), .ref (u (i + 24))])) :: ([(u (i + 1), .inl (Γ.2.1.1, 277, .inl (upd (fun _ => 0) 97 50)))] ++ [(u (i + 2), .inl (Γ.2.1.1, 277, .inl (fun _ => 0)))] ++ [(u (i + 3), .inl (Γ.2.1.1, 1662, .inl (fun _ => 0)))] ++ [(u (i + 4), .inl (Γ.2.1.1, 277, .inl (fun _ => 0)))] ++ [(u (i + 5), .inl (Γ.2.1.2.1, 60, .inl (fun _ => 0)))] ++ [(u (i + 6), .inl (Γ.2.1.1, 4, .inl (fun _ => 0)))] ++ [(u (i + 7), .inl (Γ.2.1.1, 12, .inl (fun _ => 0)))] ++ [(u (i + 8), .inl (Γ.2.1.1, 12, .inl (fun _ => 0)))] ++ [(u (i + 9), .inl (Γ.2.1.1, 12, .inl (fun _ => 0)))] ++ [(u (i + 10), .inl (Γ.2.1.1, 12, .inl (fun _ => 0)))] ++ [(u (i + 11), .inl (Γ.2.1.1, 12, .inl (fun _ => 0)))] ++ [(u (i + 12), .inl (Γ.2.1.1, 288, .inl (fun _ => 0)))] ++ [(u (i + 13), .inl (Γ.2.1.1, 12, .inl (fun _ => 0)))] ++ [(u (i + 14), .inl (Γ.2.1.1, 24, .inl (fun _ => 0)))] ++ [(u (i + 15), .inl (Γ.2.1.1, 24, .inl (fun _ => 0)))] ++ [(u (i + 16), .inl (Γ.2.1.1, 24, .inl (fun _ => 0)))] ++ [(u (i + 17), .inl (Γ.2.1.1, 24, .inl (fun _ => 0)))] ++ [(u (i + 18), .inl (Γ.2.1.1, 48, .inl (fun _ => 0)))] ++ [(u (i + 19), .inl (Γ.2.1.1, 1152, .inl (fun _ => 0)))] ++ [(u (i + 20), .inl (Γ.2.1.1, 48, .inl (fun _ => 0)))] ++ [(u (i + 21), .inl (Γ.2.1.1, 24, .inl (fun _ => 0)))] ++ [(u (i + 22), .inl (Γ.2.1.1, 4, .inl (fun _ => 0)))] ++ [(u (i + 23), .inl (Γ.2.1.1, 9, .inl xKi0))] ++ [(u (i + 24), .inl (Γ.2.1.1, 36, .inl (fun _ => 0)))])
set_option maxRecDepth 100000 in
set_option maxHeartbeats 4000000 in
theorem c_X5 (l : Launch) (Γ : fGm) (r w : Nat) (n : Int32) (hrw : ¬ (Int32.ofNat r * Int32.ofNat w) < 0 ∧ (Int32.ofNat r * Int32.ofNat w).toNatClampNeg = r * w ∧ r * w ≤ 1000) : xM l Γ yX5_init cX5_init 4 ({ frames := 1, cells := 1, slots := r * w, locals := 40 } : Room) (.inr (5, [.int 0, .int 0, .null, .int 0])) [.int (Int32.ofNat r), .int (Int32.ofNat w), .int n] (xT Γ r w n 0) := by
  refine xr_enter (own := RX5) (by decide +kernel) rfl rfl (fun _ => Nat.le_of_ble_eq_true rfl) ?_
  intro ws a sz p e s m args below meth c ls H locs C hl hP hD hS hA
  have hl : lv_has ls 4 [(0, .ref a), (1, .int (Int32.ofNat r)), (2, .int (Int32.ofNat w)), (3, .int n)] := hl
  obtain ⟨e0, he0⟩ : ∃ z : va_E, z = .inr (5, [.int 0, .int 0, .null, .int 0]) := ⟨_, rfl⟩
  rw [← he0] at hD hS hA ⊢
  have hD : va_D (va_A (ws ++ [(a, e0)]) sz) (ws ++ [(a, .inr (5, [.int 0, .int 0, .null, .int 0]))]) := by rw [← he0]; exact hD
  refine lv_aload_n C.1 C.2.1 (kd kX5_init_0 0 rfl) rfl (lv_at hl 0 rfl) ?_
  refine xr_obj C hl.1 tw_98 tw_85 tw_86 (kd kX5_init_0 1 rfl) (Nat.le_of_ble_eq_true rfl) (Nat.le_of_ble_eq_true rfl) ?_
  refine lv_aload_n C.1 C.2.1 (kd kX5_init_0 2 rfl) rfl (lv_at hl 0 rfl) ?_
  refine lv_iload_n C.1 C.2.1 (kd kX5_init_0 3 rfl) rfl (lv_at hl 1 rfl) ?_
  refine xr_putF (i := 0) C hP hD hS 0 rfl (B' := ((a, .inr (5, [.int (Int32.ofNat r), .int 0, .null, .int 0])) :: [])) rfl rfl inX5 tyX5 tyX5_ok nmX5 (Nat.le_of_ble_eq_true rfl) tw_99 rfl rfl rfl rfl (Nat.le_of_ble_eq_true rfl) (kd kX5_init_0 4 rfl) (fun H locs hP hD hS => ?_)
  refine lv_aload_n C.1 C.2.1 (kd kX5_init_0 5 rfl) rfl (lv_at hl 0 rfl) ?_
  refine lv_iload_n C.1 C.2.1 (kd kX5_init_0 6 rfl) rfl (lv_at hl 2 rfl) ?_
  refine xr_putF (i := 1) C hP hD hS 0 rfl (B' := ((a, .inr (5, [.int (Int32.ofNat r), .int (Int32.ofNat w), .null, .int 0])) :: [])) rfl rfl inX5 tyX5 tyX5_ok nmX5 (Nat.le_of_ble_eq_true rfl) tw_100 rfl rfl rfl rfl (Nat.le_of_ble_eq_true rfl) (kd kX5_init_0 7 rfl) (fun H locs hP hD hS => ?_)
  refine lv_aload_n C.1 C.2.1 (kd kX5_init_0 8 rfl) rfl (lv_at hl 0 rfl) ?_
  refine lv_iload_n C.1 C.2.1 (kd kX5_init_0 9 rfl) rfl (lv_at hl 3 rfl) ?_
  refine xr_put (i := 3) C hP hD hS 0 rfl (B' := ((a, .inr (5, [.int (Int32.ofNat r), .int (Int32.ofNat w), .null, .int n])) :: [])) rfl rfl inX5 tyX5 tyX5_ok nmX5 (Nat.le_of_ble_eq_true rfl) tw_102 rfl rfl rfl (Nat.le_of_ble_eq_true rfl) (kd kX5_init_0 10 rfl) (fun H locs hP hD hS => ?_)
  refine lv_aload_n C.1 C.2.1 (kd kX5_init_0 11 rfl) rfl (lv_at hl 0 rfl) ?_
  refine lv_iload_n C.1 C.2.1 (kd kX5_init_0 12 rfl) rfl (lv_at hl 1 rfl) ?_
  refine lv_iload_n C.1 C.2.1 (kd kX5_init_0 13 rfl) rfl (lv_at hl 2 rfl) ?_
  refine lv_imul C.1 C.2.1 (kd kX5_init_0 14 rfl) ?_
  refine xr_newi C hP hD hS hA tw_112 (N := r * w) hrw.1 hrw.2.1 (by omega) (c' := 1) (s' := 0 + r * w) rfl rfl (Nat.le_of_ble_eq_true rfl) (by show 0 + r * w ≤ r * w; omega) (kd kX5_init_0 15 rfl) (fun q1 H hP hD hS => ?_)
  refine xr_putF (i := 2) C hP hD hS 0 rfl (B' := ((a, .inr (5, [.int (Int32.ofNat r), .int (Int32.ofNat w), .ref q1, .int n])) :: [(q1, .inl (Γ.2.1.1, r * w, .inl (fun _ => 0)))])) rfl rfl inX5 tyX5 tyX5_ok nmX5 (Nat.le_of_ble_eq_true rfl) tw_101 rfl rfl rfl rfl (Nat.le_of_ble_eq_true rfl) (kd kX5_init_0 16 rfl) (fun H locs hP hD hS => ?_)
  exact xr_ret (blk := xT Γ r w n 0) C (fun i => if i = 0 then a else q1) rfl rfl hP hD hS (Nat.le_of_ble_eq_true rfl) (by show 0 + r * w ≤ r * w; omega) (kd kX5_init_0 17 rfl)
theorem xl_get {α : Type} (c1 c2 : α) (E : List α) (c : α) (R : List α) : (c1 :: c2 :: (E ++ c :: R))[E.length + 2]? = some c := by simp
theorem xl_set {α : Type} (c1 c2 : α) (E : List α) (c d : α) (R : List α) : (c1 :: c2 :: (E ++ c :: R)).set (E.length + 2) d = c1 :: c2 :: (E ++ d :: R) := by simp
set_option maxRecDepth 100000 in
set_option maxHeartbeats 4000000 in
theorem c_X5_put (l : Launch) (Γ : fGm) (ws B : va_W) (j sz t q r w : Nat) (x1 x2 x3 n : Int32) (f : Nat → Int32) (he : B[j]? = some (t, .inr (5, [.int (Int32.ofNat r), .int (Int32.ofNat w), .ref q, .int n]))) (ha : B[j + 1]? = some (q, .inl (Γ.2.1.1, r * w, .inl f))) (h1 : ¬ x1 < 0) (h2 : ¬ n ≤ x1) (h3 : ¬ x2 < 0) (h4 : x2 < Int32.ofNat w) (h5 : vp_in (x1 * Int32.ofNat w + x2) (r * w)) : Met l yX5_put (.code yX5_put cX5_put 4 none :: lw_g) ({ frames := 0, cells := 0, slots := 0, locals := 0 } : Room) (va_Pc [.ref t, .int x1, .int x2, .int x3] (xPre Γ (ws ++ B) sz)) (va_Qv (fun (_ : Nat → Nat) => True) (xB Γ (va_A (ws ++ B) sz) (fun _ => ws ++ B.set (j + 1) (q, .inl (Γ.2.1.1, r * w, .inl (upd f (x1 * Int32.ofNat w + x2).toNatClampNeg x3))))) (va_A (ws ++ B) sz)) 0 0 (va_A (ws ++ B) sz) := by
  refine Met.ofW (cc := cX5_put) (maxL := 4) (ret := none) (by decide +kernel) rfl ?_
  intro p e s m args below meth c s₁ B0 hml hv
  obtain ⟨rfl, hsz, hP, hK, hD0⟩ := hv
  have hts := atoms_spec (ws := Cond.code yX5_put cX5_put 4 none :: lw_g) B0.pre
  have hl := lv_entry ([.ref t, .int x1, .int x2, .int x3]) (n := 4) (Nat.le_of_ble_eq_true rfl)
  rw [lg_entry_eq]
  generalize (lg_sl ([.ref t, .int x1, .int x2, .int x3]) ++ List.replicate (4 - (lg_sl ([.ref t, .int x1, .int x2, .int x3])).length) Slot.unset).toArray = ls at hl ⊢
  have hl : lv_has ls 4 [(0, .ref t), (1, .int x1), (2, .int x2), (3, .int x3)] := hl
  subst hsz
  have hx := B0.exec
  have hb := B0.bytes
  have hr := B0.returns
  have hw : ∀ w ∈ lw_g, w.before _ s = true := fun w h => hts w (List.mem_cons_of_mem _ h)
  have hown : s.vm.findClass RX5 = some m.cls := findClass_of_methodNamed B0.named
  have hlocks := B0.notSynchronized
  have hD := hD0.self (sz := s.heap.size)
  have hS : va_S (va_A (ws ++ B) s.heap.size) s.heap s.heap [] := va_S.rf
  have heT : (ws ++ B)[ws.length + j]? = some (t, .inr (5, [.int (Int32.ofNat r), .int (Int32.ofNat w), .ref q, .int n])) := by rw [xa_get, he]
  have heA : (ws ++ B)[ws.length + (j + 1)]? = some (q, .inl (Γ.2.1.1, r * w, .inl f)) := by rw [xa_get, ha]
  refine lv_iload_n hx hb (kd kX5_put_0 0 rfl) rfl (lv_at hl 1 rfl) ?_
  refine lv_if_lt (tgt := 24) hx hb (kd kX5_put_0 1 rfl) (by decide) (fun z => absurd z h1) (fun _ => ?_)
  refine lv_iload_n hx hb (kd kX5_put_0 2 rfl) rfl (lv_at hl 1 rfl) ?_
  refine lv_aload_n hx hb (kd kX5_put_0 3 rfl) rfl (lv_at hl 0 rfl) ?_
  refine va_get (D := Γ.2.2) (v := .int n) hx hb hw inX5 hown hK.1 hP (ws.length + j) heT rfl 3 (by decide) (hw _ tw_102) (fun _ h => h) rfl (kd kX5_put_0 4 rfl) ?_
  refine lv_icmp_ge (tgt := 24) hx hb (kd kX5_put_0 5 rfl) (by decide) (fun z => absurd z h2) (fun _ => ?_)
  refine lv_iload_n hx hb (kd kX5_put_0 6 rfl) rfl (lv_at hl 2 rfl) ?_
  refine lv_if_lt (tgt := 24) hx hb (kd kX5_put_0 7 rfl) (by decide) (fun z => absurd z h3) (fun _ => ?_)
  refine lv_iload_n hx hb (kd kX5_put_0 8 rfl) rfl (lv_at hl 2 rfl) ?_
  refine lv_aload_n hx hb (kd kX5_put_0 9 rfl) rfl (lv_at hl 0 rfl) ?_
  refine va_get (D := Γ.2.2) (v := .int (Int32.ofNat w)) hx hb hw inX5 hown hK.1 hP (ws.length + j) heT rfl 1 (by decide) (hw _ tw_100) (fun _ h => h) rfl (kd kX5_put_0 10 rfl) ?_
  refine lv_icmp_lt (tgt := 25) hx hb (kd kX5_put_0 11 rfl) (by decide) (fun _ => ?_) (fun z => absurd h4 z)
  refine lv_aload_n hx hb (kd kX5_put_0 13 rfl) rfl (lv_at hl 0 rfl) ?_
  refine va_get (D := Γ.2.2) (v := .ref q) hx hb hw inX5 hown hK.1 hP (ws.length + j) heT rfl 2 (by decide) (hw _ tw_101) (fun _ h => h) rfl (kd kX5_put_0 14 rfl) ?_
  refine lv_iload_n hx hb (kd kX5_put_0 15 rfl) rfl (lv_at hl 1 rfl) ?_
  refine lv_aload_n hx hb (kd kX5_put_0 16 rfl) rfl (lv_at hl 0 rfl) ?_
  refine va_get (D := Γ.2.2) (v := .int (Int32.ofNat w)) hx hb hw inX5 hown hK.1 hP (ws.length + j) heT rfl 1 (by decide) (hw _ tw_100) (fun _ h => h) rfl (kd kX5_put_0 17 rfl) ?_
  refine lv_imul hx hb (kd kX5_put_0 18 rfl) ?_
  refine lv_iload_n hx hb (kd kX5_put_0 19 rfl) rfl (lv_at hl 2 rfl) ?_
  refine lv_iadd hx hb (kd kX5_put_0 20 rfl) ?_
  refine lv_iload_n hx hb (kd kX5_put_0 21 rfl) rfl (lv_at hl 3 rfl) ?_
  refine va_iast (D := Γ.2.2) hx hb hK.1 hP hD hS (ws.length + (j + 1)) 0 heA rfl h5 (kd kX5_put_0 22 rfl) (fun H locs hP hD hS => ?_)
  rw [xa_set] at hP hD
  exact W.vret hx hb hr (fun t2 ht _ => ⟨⟨fun _ => 0, rfl, trivial, by rw [ht]; exact hP, hD⟩, hS.F ht⟩) hS.2.2 (kd kX5_put_0 23 rfl) hlocks
theorem xr_callput {p : Program} {l : Launch} {e : Env} {R : Room} {s : State} {m : MethodId} {args : Array Value} {below : List Frame} {meth : Method} {c : Code} {H : Heap} {locs : List Loc} {Q : State → Prop} {Γ : fGm} {cc : ByteArray} {own : String} {nL pc cells slots : Nat} {ls : Array Slot} {ws B : va_W} {A : Nat → Prop} (C : xC Γ p s m args meth c cc own nL) (hsz : ls.size = nL) (hP : va_P Γ.2.2 vwCl (ws ++ B) H) (hD : va_D A (ws ++ B)) (hS : va_S A s.heap H locs) (hA : ∀ q, s.heap.size ≤ q → A q) (j : Nat) {t q r w index : Nat} {x1 x2 x3 n : Int32} {f : Nat → Int32} (he : B[j]? = some (t, .inr (5, [.int (Int32.ofNat r), .int (Int32.ofNat w), .ref q, .int n]))) (ha : B[j + 1]? = some (q, .inl (Γ.2.1.1, r * w, .inl f))) {B' : va_W} (hB' : B.set (j + 1) (q, .inl (Γ.2.1.1, r * w, .inl (upd f (x1 * Int32.ofNat w + x2).toNatClampNeg x3))) = B') (h1 : ¬ x1 < 0) (h2 : ¬ n ≤ x1) (h3 : ¬ x2 < 0) (h4 : x2 < Int32.ofNat w) (h5 : ¬ ((x1 * Int32.ofNat w + x2) < 0 ∨ r * w ≤ (x1 * Int32.ofNat w + x2).toNatClampNeg)) (k1 : Cond.methodLink own index yX5_put ∈ lw_g) (k2 : Cond.instanceMethod yX5_put ∈ lw_g) (k3 : Cond.selects RX5 yX5_put yX5_put ∈ lw_g) (k4 : Cond.initialized RX5 ∈ lw_g) (k5 : Cond.code yX5_put cX5_put 4 none ∈ lw_g) (r1 : 1 ≤ R.frames) (r2 : 23 ≤ R.locals) (r3 : cells ≤ R.cells) (r4 : slots ≤ R.slots) (hdg : decode cc pc = .ok (.invokevirtual index, 3))
    (kk : ∀ (H1 : Heap) (locs1 : List Loc), va_P Γ.2.2 vwCl (ws ++ B') H1 → va_D A (ws ++ B') → va_S A s.heap H1 locs1 → W p l e R s m args below meth c H1 locs1 cells slots Q (F0 m (pc + 3) ls [])) : W p l e R s m args below meth c H locs cells slots Q (F0 m pc ls [.int x3, .int x2, .int x1, .ref t]) := by
  subst hB'
  have hF : ∀ x, va_A (ws ++ B) H.size x → A x := by
    intro x h
    rcases h with ⟨k, e1, h⟩ | h
    · exact hD.2 k _ h
    · exact hA x (Nat.le_trans hS.1 h)
  refine va_callv (va_runV (Ts := lw_g) (own := own) (C := RX5) (As := [.int x1, .int x2, .int x3]) (rest := []) (n := 3) (mc := 0) (ms := 0) ⟨C.1, C.2.1, C.2.2.2.1, C.2.2.2.2.1, C.2.2.2.2.2.1⟩ (c_X5_put l Γ ws B j H.size t q r w x1 x2 x3 n f he ha h1 h2 h3 h4 h5) (cwV 3 C.2.2.2.2.2.1 (fgV k1 k2 k3 k4 k5) rfl rfl rfl hd_X5_put ⟨r1, r2⟩) ⟨xPre_blind Γ _ _ _, va_recv C.2.2.2.2.2.2.2.1.1 hP (ci := 5) (q0 := ws.length + j) rfl (by rw [xa_get, he]), fun U hU hW => ⟨rfl, by rw [hU], by rw [hU]; exact hP, C.2.2.2.2.2.2.2.1.moved hW.alike, hD.weaken (fun _ _ _ _ => trivial)⟩⟩ rfl rfl hsz rfl (lv_room (Nat.zero_le _)) hdg ⟨r3, r4⟩) hS (fun x _ h => hF x h) hF (fun u t2 H1 locs1 ht _ hw hB _ _ hS1 => ?_)
  obtain ⟨hP1, hD1⟩ := hB
  rw [ht] at hP1
  exact kk H1 locs1 hP1 (hD1.weaken (fun k x _ h => hF x.1 h)) hS1

