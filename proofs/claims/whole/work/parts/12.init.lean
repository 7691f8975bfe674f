def oka (n : Int32) : Bool := !(decide (n < 0)) && decide (n.toNatClampNeg ≤ 10000)
theorem oka_e {n : Int32} (h : oka n = true) : ¬ n < 0 ∧ n.toNatClampNeg ≤ 10000 := by
  unfold oka at h
  simp only [Bool.and_eq_true, Bool.not_eq_true', decide_eq_false_iff_not, decide_eq_true_eq] at h
  exact h
theorem oka_b {n : Int32} (h : oka n = true) {k : Nat} (hk : k ≤ 8) : n.toNatClampNeg * k ≤ 536870912 := by
  have h1 := (oka_e h).2
  exact Nat.le_trans (Nat.mul_le_mul h1 hk) (Nat.le_of_ble_eq_true rfl)
theorem q_objc {s : State} {args : Array Value} (h : TB s) : (Cond.code Lib.objectInit ⟨#[0xb1]⟩ 1 none).before args s = true := TB.w 78 (by decide +kernel) rfl h
theorem q15 {s : State} {args : Array Value} (h : TB s) : (Jvm.Cond.selects "RebusSignsModel" ({ cls := "RebusSignsModel", name := "sign4", desc := "(IIIIII)V" } : Jvm.MethodName) ({ cls := "RebusSignsModel", name := "sign4", desc := "(IIIIII)V" } : Jvm.MethodName)).before args s = true := TB.w 15 (by decide +kernel) rfl h
theorem q16 {s : State} {args : Array Value} (h : TB s) : (Jvm.Cond.selects "RebusSignsModel" ({ cls := "RebusSignsModel", name := "word6", desc := "(IIIIIII)V" } : Jvm.MethodName) ({ cls := "RebusSignsModel", name := "word6", desc := "(IIIIIII)V" } : Jvm.MethodName)).before args s = true := TB.w 16 (by decide +kernel) rfl h
theorem q54 {s : State} {args : Array Value} (h : TB s) : (Jvm.Cond.initialized "RebusSigns$Letters").before args s = true := TB.w 54 (by decide +kernel) rfl h
theorem q56 {s : State} {args : Array Value} (h : TB s) : (Jvm.Cond.initialized "RebusSigns$Row").before args s = true := TB.w 56 (by decide +kernel) rfl h
theorem q65 {s : State} {args : Array Value} (h : TB s) : (Jvm.Cond.initialized "RebusSigns$Sign").before args s = true := TB.w 65 (by decide +kernel) rfl h
theorem q66 {s : State} {args : Array Value} (h : TB s) : (Jvm.Cond.initialized "RebusSigns$Word").before args s = true := TB.w 66 (by decide +kernel) rfl h
theorem q77 {s : State} {args : Array Value} (h : TB s) : (Jvm.Cond.instanceMethod ({ cls := "java/lang/Object", name := "<init>", desc := "()V" } : Jvm.MethodName)).before args s = true := TB.w 77 (by decide +kernel) rfl h
theorem q80 {s : State} {args : Array Value} (h : TB s) : (Jvm.Cond.instantiable "RebusSigns$Letters" (2 : Nat)).before args s = true := TB.w 80 (by decide +kernel) rfl h
theorem q82 {s : State} {args : Array Value} (h : TB s) : (Jvm.Cond.instanceMethod ({ cls := "RebusSigns$Letters", name := "<init>", desc := "(I)V" } : Jvm.MethodName)).before args s = true := TB.w 82 (by decide +kernel) rfl h
theorem q84 {s : State} {args : Array Value} (h : TB s) : (Jvm.Cond.methodLink "RebusSigns$Letters" (3 : Nat) ({ cls := "java/lang/Object", name := "<init>", desc := "()V" } : Jvm.MethodName)).before args s = true := TB.w 84 (by decide +kernel) rfl h
theorem q95 {s : State} {args : Array Value} (h : TB s) : (Jvm.Cond.arrayClass Jvm.ClassFile.FieldType.char).before args s = true := TB.w 95 (by decide +kernel) rfl h
theorem q97 {s : State} {args : Array Value} (h : TB s) : (Jvm.Cond.instantiable "RebusSigns$Row" (2 : Nat)).before args s = true := TB.w 97 (by decide +kernel) rfl h
theorem q99 {s : State} {args : Array Value} (h : TB s) : (Jvm.Cond.instanceMethod ({ cls := "RebusSigns$Row", name := "<init>", desc := "(I)V" } : Jvm.MethodName)).before args s = true := TB.w 99 (by decide +kernel) rfl h
theorem q101 {s : State} {args : Array Value} (h : TB s) : (Jvm.Cond.methodLink "RebusSigns$Row" (3 : Nat) ({ cls := "java/lang/Object", name := "<init>", desc := "()V" } : Jvm.MethodName)).before args s = true := TB.w 101 (by decide +kernel) rfl h
theorem q102 {s : State} {args : Array Value} (h : TB s) : (Jvm.Cond.methodLink "RebusSigns$Row" (9 : Nat) ({ cls := "java/lang/Math", name := "max", desc := "(II)I" } : Jvm.MethodName)).before args s = true := TB.w 102 (by decide +kernel) rfl h
theorem q110 {s : State} {args : Array Value} (h : TB s) : (Jvm.Cond.arrayClass Jvm.ClassFile.FieldType.int).before args s = true := TB.w 110 (by decide +kernel) rfl h
theorem q116 {s : State} {args : Array Value} (h : TB s) : (Jvm.Cond.methodLink "RebusSigns$History" (3 : Nat) ({ cls := "java/lang/Object", name := "<init>", desc := "()V" } : Jvm.MethodName)).before args s = true := TB.w 116 (by decide +kernel) rfl h
theorem q132 {s : State} {args : Array Value} (h : TB s) : (Jvm.Cond.methodLink "RebusSigns$Scribe" (3 : Nat) ({ cls := "java/lang/Object", name := "<init>", desc := "()V" } : Jvm.MethodName)).before args s = true := TB.w 132 (by decide +kernel) rfl h
theorem q133 {s : State} {args : Array Value} (h : TB s) : (Jvm.Cond.classLink "RebusSigns$Scribe" (9 : Nat) "RebusSigns$Row").before args s = true := TB.w 133 (by decide +kernel) rfl h
theorem q134 {s : State} {args : Array Value} (h : TB s) : (Jvm.Cond.arrayOver (Jvm.ClassFile.FieldType.object "RebusSigns$Row")).before args s = true := TB.w 134 (by decide +kernel) rfl h
theorem q135 {s : State} {args : Array Value} (h : TB s) : (Jvm.Cond.methodLink "RebusSigns$Scribe" (31 : Nat) ({ cls := "RebusSigns$Row", name := "<init>", desc := "(I)V" } : Jvm.MethodName)).before args s = true := TB.w 135 (by decide +kernel) rfl h
theorem q155 {s : State} {args : Array Value} (h : TB s) : (Jvm.Cond.arrayClass Jvm.ClassFile.FieldType.long).before args s = true := TB.w 155 (by decide +kernel) rfl h
theorem q161 {s : State} {args : Array Value} (h : TB s) : (Jvm.Cond.methodLink "RebusSigns$Reader" (3 : Nat) ({ cls := "java/lang/Object", name := "<init>", desc := "()V" } : Jvm.MethodName)).before args s = true := TB.w 161 (by decide +kernel) rfl h
theorem q239 {s : State} {args : Array Value} (h : TB s) : (Jvm.Cond.methodLink "RebusSigns$Lexicon" (3 : Nat) ({ cls := "java/lang/Object", name := "<init>", desc := "()V" } : Jvm.MethodName)).before args s = true := TB.w 239 (by decide +kernel) rfl h
theorem q240 {s : State} {args : Array Value} (h : TB s) : (Jvm.Cond.classLink "RebusSigns$Lexicon" (9 : Nat) "RebusSigns$Sign").before args s = true := TB.w 240 (by decide +kernel) rfl h
theorem q241 {s : State} {args : Array Value} (h : TB s) : (Jvm.Cond.arrayOver (Jvm.ClassFile.FieldType.object "RebusSigns$Sign")).before args s = true := TB.w 241 (by decide +kernel) rfl h
theorem q242 {s : State} {args : Array Value} (h : TB s) : (Jvm.Cond.classLink "RebusSigns$Lexicon" (17 : Nat) "RebusSigns$Word").before args s = true := TB.w 242 (by decide +kernel) rfl h
theorem q243 {s : State} {args : Array Value} (h : TB s) : (Jvm.Cond.arrayOver (Jvm.ClassFile.FieldType.object "RebusSigns$Word")).before args s = true := TB.w 243 (by decide +kernel) rfl h
theorem q244 {s : State} {args : Array Value} (h : TB s) : (Jvm.Cond.instantiable "RebusSigns$Sign" (4 : Nat)).before args s = true := TB.w 244 (by decide +kernel) rfl h
theorem q245 {s : State} {args : Array Value} (h : TB s) : (Jvm.Cond.methodLinkNest "RebusSigns$Lexicon" (23 : Nat) ({ cls := "RebusSigns$Sign", name := "<init>", desc := "()V" } : Jvm.MethodName) "RebusSigns").before args s = true := TB.w 245 (by decide +kernel) rfl h
theorem q246 {s : State} {args : Array Value} (h : TB s) : (Jvm.Cond.instanceMethod ({ cls := "RebusSigns$Sign", name := "<init>", desc := "()V" } : Jvm.MethodName)).before args s = true := TB.w 246 (by decide +kernel) rfl h
theorem q248 {s : State} {args : Array Value} (h : TB s) : (Jvm.Cond.methodLink "RebusSigns$Sign" (3 : Nat) ({ cls := "java/lang/Object", name := "<init>", desc := "()V" } : Jvm.MethodName)).before args s = true := TB.w 248 (by decide +kernel) rfl h
theorem q249 {s : State} {args : Array Value} (h : TB s) : (Jvm.Cond.classLink "RebusSigns$Sign" (9 : Nat) "RebusSigns$Letters").before args s = true := TB.w 249 (by decide +kernel) rfl h
theorem q250 {s : State} {args : Array Value} (h : TB s) : (Jvm.Cond.methodLink "RebusSigns$Sign" (11 : Nat) ({ cls := "RebusSigns$Letters", name := "<init>", desc := "(I)V" } : Jvm.MethodName)).before args s = true := TB.w 250 (by decide +kernel) rfl h
theorem q251 {s : State} {args : Array Value} (h : TB s) : (Jvm.Cond.fieldLink "RebusSigns$Sign" (14 : Nat) "RebusSigns$Sign" "sound" "LRebusSigns$Letters;").before args s = true := TB.w 251 (by decide +kernel) rfl h
theorem q279 {s : State} {args : Array Value} (h : TB s) : (Jvm.Cond.instantiable "RebusSigns$Word" (2 : Nat)).before args s = true := TB.w 279 (by decide +kernel) rfl h
theorem q280 {s : State} {args : Array Value} (h : TB s) : (Jvm.Cond.methodLinkNest "RebusSigns$Lexicon" (24 : Nat) ({ cls := "RebusSigns$Word", name := "<init>", desc := "()V" } : Jvm.MethodName) "RebusSigns").before args s = true := TB.w 280 (by decide +kernel) rfl h
theorem q281 {s : State} {args : Array Value} (h : TB s) : (Jvm.Cond.instanceMethod ({ cls := "RebusSigns$Word", name := "<init>", desc := "()V" } : Jvm.MethodName)).before args s = true := TB.w 281 (by decide +kernel) rfl h
theorem q283 {s : State} {args : Array Value} (h : TB s) : (Jvm.Cond.methodLink "RebusSigns$Word" (3 : Nat) ({ cls := "java/lang/Object", name := "<init>", desc := "()V" } : Jvm.MethodName)).before args s = true := TB.w 283 (by decide +kernel) rfl h
theorem q284 {s : State} {args : Array Value} (h : TB s) : (Jvm.Cond.classLink "RebusSigns$Word" (9 : Nat) "RebusSigns$Letters").before args s = true := TB.w 284 (by decide +kernel) rfl h
theorem q285 {s : State} {args : Array Value} (h : TB s) : (Jvm.Cond.methodLink "RebusSigns$Word" (11 : Nat) ({ cls := "RebusSigns$Letters", name := "<init>", desc := "(I)V" } : Jvm.MethodName)).before args s = true := TB.w 285 (by decide +kernel) rfl h
theorem q286 {s : State} {args : Array Value} (h : TB s) : (Jvm.Cond.fieldLink "RebusSigns$Word" (14 : Nat) "RebusSigns$Word" "letters" "LRebusSigns$Letters;").before args s = true := TB.w 286 (by decide +kernel) rfl h
theorem q761 {s : State} {args : Array Value} (h : TB s) : (Jvm.Cond.methodLink "RebusSignsModel" (1 : Nat) ({ cls := "java/lang/Object", name := "<init>", desc := "()V" } : Jvm.MethodName)).before args s = true := TB.w 761 (by decide +kernel) rfl h
theorem q762 {s : State} {args : Array Value} (h : TB s) : (Jvm.Cond.methodLink "RebusSignsModel" (56 : Nat) ({ cls := "RebusSignsModel", name := "sign4", desc := "(IIIIII)V" } : Jvm.MethodName)).before args s = true := TB.w 762 (by decide +kernel) rfl h
theorem q764 {s : State} {args : Array Value} (h : TB s) : (Jvm.Cond.instanceMethod ({ cls := "RebusSignsModel", name := "sign4", desc := "(IIIIII)V" } : Jvm.MethodName)).before args s = true := TB.w 764 (by decide +kernel) rfl h
theorem q766 {s : State} {args : Array Value} (h : TB s) : (Jvm.Cond.methodLink "RebusSignsModel" (60 : Nat) ({ cls := "RebusSignsModel", name := "word6", desc := "(IIIIIII)V" } : Jvm.MethodName)).before args s = true := TB.w 766 (by decide +kernel) rfl h
theorem q768 {s : State} {args : Array Value} (h : TB s) : (Jvm.Cond.instanceMethod ({ cls := "RebusSignsModel", name := "word6", desc := "(IIIIIII)V" } : Jvm.MethodName)).before args s = true := TB.w 768 (by decide +kernel) rfl h
theorem mb_Hi_init {s : State} (h : TB s) : MB yX0_init cX0_init 1 (Option.none : Option Jvm.ClassFile.FieldType) 0 s := MB.mk 115 57 h (by decide +kernel) (by decide +kernel) (by decide +kernel)
theorem mb_Le_init {s : State} (h : TB s) : MB yX1_init cX1_init 2 (Option.none : Option Jvm.ClassFile.FieldType) 1 s := MB.mk 83 54 h (by decide +kernel) (by decide +kernel) (by decide +kernel)
theorem mb_Ro_init {s : State} (h : TB s) : MB yX5_init cX5_init 2 (Option.none : Option Jvm.ClassFile.FieldType) 1 s := MB.mk 100 56 h (by decide +kernel) (by decide +kernel) (by decide +kernel)
theorem mb_Si_init {s : State} (h : TB s) : MB yX7_init cX7_init 1 (Option.none : Option Jvm.ClassFile.FieldType) 0 s := MB.mk 247 65 h (by decide +kernel) (by decide +kernel) (by decide +kernel)
theorem mb_Wo_init {s : State} (h : TB s) : MB yX8_init cX8_init 1 (Option.none : Option Jvm.ClassFile.FieldType) 0 s := MB.mk 282 66 h (by decide +kernel) (by decide +kernel) (by decide +kernel)
theorem mb_Lx_init {s : State} (h : TB s) : MB yX2_init cX2_init 2 (Option.none : Option Jvm.ClassFile.FieldType) 0 s := MB.mk 238 64 h (by decide +kernel) (by decide +kernel) (by decide +kernel)
theorem mb_Re_init {s : State} (h : TB s) : MB yX4_init cX4_init 1 (Option.none : Option Jvm.ClassFile.FieldType) 0 s := MB.mk 160 59 h (by decide +kernel) (by decide +kernel) (by decide +kernel)
theorem mb_Sc_init {s : State} (h : TB s) : MB yX6_init cX6_init 2 (Option.none : Option Jvm.ClassFile.FieldType) 0 s := MB.mk 131 58 h (by decide +kernel) (by decide +kernel) (by decide +kernel)
theorem mb_Mo_init {s : State} (h : TB s) : MB yX10_init cX10_init 1 (Option.none : Option Jvm.ClassFile.FieldType) 0 s := MB.mk 760 68 h (by decide +kernel) (by decide +kernel) (by decide +kernel)
set_option maxRecDepth 100000 in
def Hi_init (T : Tx) (V : Vx) (this : Nat) : Option (Tx × Vx) :=
  lt (tp T) (fun a1 => lt (nT T 11 6) (fun T2 => lt (zV T V) (fun V3 => bd (ck T2 0 (some this)) (fun _ => lt (sR V3 0 this (some a1)) (fun V11 => lt (tp T2) (fun a13 => lt (nT T2 11 6) (fun T14 => lt (zV T2 V11) (fun V15 => bd (ck T14 0 (some this)) (fun _ => lt (sR V15 1 this (some a13)) (fun V23 => some (T14, V23)))))))))))
set_option maxRecDepth 100000 in
def Le_init (T : Tx) (V : Vx) (this : Nat) (p1 : Int32) : Option (Tx × Vx) :=
  gd (oka (if p1 < 0 then 0 else p1)) (lt (tp T) (fun a1 => lt (nT T 10 ((if p1 < 0 then 0 else p1).toNatClampNeg)) (fun T2 => lt (zV T V) (fun V3 => bd (ck T2 1 (some this)) (fun _ => lt (sR V3 100 this (some a1)) (fun V12 => some (T2, V12)))))))
set_option maxRecDepth 100000 in
def Ro_init (T : Tx) (V : Vx) (this : Nat) (p1 : Int32) : Option (Tx × Vx) :=
  gd (oka (if p1 < 0 then 0 else p1)) (lt (tp T) (fun a1 => lt (nT T 11 ((if p1 < 0 then 0 else p1).toNatClampNeg)) (fun T2 => lt (zV T V) (fun V3 => bd (ck T2 4 (some this)) (fun _ => lt (sR V3 400 this (some a1)) (fun V12 => some (T2, V12)))))))
set_option maxRecDepth 100000 in
def Si_init (T : Tx) (V : Vx) (this : Nat) : Option (Tx × Vx) :=
  lt (tp T) (fun a1 => lt (nT T 1 0) (fun T2 => lt (zV T V) (fun V3 => bd2 (Le_init T2 V3 a1 4) (fun T8 V9 => gd (decide (tp T8 = tp T2 + 1)) (bd (ck T8 6 (some this)) (fun _ => bd (ck T8 1 (some a1)) (fun _ => lt (sR V9 600 this (some a1)) (fun V15 => some (T8, V15)))))))))
set_option maxRecDepth 100000 in
def Wo_init (T : Tx) (V : Vx) (this : Nat) : Option (Tx × Vx) :=
  lt (tp T) (fun a1 => lt (nT T 1 0) (fun T2 => lt (zV T V) (fun V3 => bd2 (Le_init T2 V3 a1 8) (fun T8 V9 => gd (decide (tp T8 = tp T2 + 1)) (bd (ck T8 7 (some this)) (fun _ => bd (ck T8 1 (some a1)) (fun _ => lt (sR V9 700 this (some a1)) (fun V15 => some (T8, V15)))))))))
set_option maxRecDepth 100000 in
def Lx_init (T : Tx) (V : Vx) (this : Nat) : Option (Tx × Vx) :=
  lt (tp T) (fun a1 => lt (nT T 14 12) (fun T2 => lt (zV T V) (fun V3 => bd (ck T2 2 (some this)) (fun _ => lt (sR V3 200 this (some a1)) (fun V11 => lt (tp T2) (fun a13 => lt (nT T2 15 8) (fun T14 => lt (zV T2 V11) (fun V15 => bd (ck T14 2 (some this)) (fun _ => lt (sR V15 201 this (some a13)) (fun V23 => bd (ck T14 14 (fR V23 200 this)) (fun r26 => lt (tp T14) (fun a30 => lt (nT T14 6 0) (fun T31 => lt (zV T14 V23) (fun V32 => bd2 (Si_init T31 V32 a30) (fun T37 V38 => gd (decide (tp T37 = tp T31 + 2)) (bd (ck T37 14 (some r26)) (fun _ => bd (ck T37 6 (some a30)) (fun _ => gd (inb 0 (ln T37 r26)) (lt (wR V38 r26 (0 : Int32).toNatClampNeg (some a30)) (fun V48 => bd (ck T37 2 (some this)) (fun _ => bd (ck T37 14 (fR V48 200 this)) (fun r54 => lt (tp T37) (fun a58 => lt (nT T37 6 0) (fun T59 => lt (zV T37 V48) (fun V60 => bd2 (Si_init T59 V60 a58) (fun T65 V66 => gd (decide (tp T65 = tp T59 + 2)) (bd (ck T65 14 (some r54)) (fun _ => bd (ck T65 6 (some a58)) (fun _ => gd (inb 1 (ln T65 r54)) (lt (wR V66 r54 (1 : Int32).toNatClampNeg (some a58)) (fun V76 => bd (ck T65 2 (some this)) (fun _ => bd (ck T65 14 (fR V76 200 this)) (fun r82 => lt (tp T65) (fun a86 => lt (nT T65 6 0) (fun T87 => lt (zV T65 V76) (fun V88 => bd2 (Si_init T87 V88 a86) (fun T93 V94 => gd (decide (tp T93 = tp T87 + 2)) (bd (ck T93 14 (some r82)) (fun _ => bd (ck T93 6 (some a86)) (fun _ => gd (inb 2 (ln T93 r82)) (lt (wR V94 r82 (2 : Int32).toNatClampNeg (some a86)) (fun V104 => bd (ck T93 2 (some this)) (fun _ => bd (ck T93 14 (fR V104 200 this)) (fun r110 => lt (tp T93) (fun a114 => lt (nT T93 6 0) (fun T115 => lt (zV T93 V104) (fun V116 => bd2 (Si_init T115 V116 a114) (fun T121 V122 => gd (decide (tp T121 = tp T115 + 2)) (bd (ck T121 14 (some r110)) (fun _ => bd (ck T121 6 (some a114)) (fun _ => gd (inb 3 (ln T121 r110)) (lt (wR V122 r110 (3 : Int32).toNatClampNeg (some a114)) (fun V132 => bd (ck T121 2 (some this)) (fun _ => bd (ck T121 14 (fR V132 200 this)) (fun r138 => lt (tp T121) (fun a142 => lt (nT T121 6 0) (fun T143 => lt (zV T121 V132) (fun V144 => bd2 (Si_init T143 V144 a142) (fun T149 V150 => gd (decide (tp T149 = tp T143 + 2)) (bd (ck T149 14 (some r138)) (fun _ => bd (ck T149 6 (some a142)) (fun _ => gd (inb 4 (ln T149 r138)) (lt (wR V150 r138 (4 : Int32).toNatClampNeg (some a142)) (fun V160 => bd (ck T149 2 (some this)) (fun _ => bd (ck T149 14 (fR V160 200 this)) (fun r166 => lt (tp T149) (fun a170 => lt (nT T149 6 0) (fun T171 => lt (zV T149 V160) (fun V172 => bd2 (Si_init T171 V172 a170) (fun T177 V178 => gd (decide (tp T177 = tp T171 + 2)) (bd (ck T177 14 (some r166)) (fun _ => bd (ck T177 6 (some a170)) (fun _ => gd (inb 5 (ln T177 r166)) (lt (wR V178 r166 (5 : Int32).toNatClampNeg (some a170)) (fun V188 => bd (ck T177 2 (some this)) (fun _ => bd (ck T177 14 (fR V188 200 this)) (fun r194 => lt (tp T177) (fun a198 => lt (nT T177 6 0) (fun T199 => lt (zV T177 V188) (fun V200 => bd2 (Si_init T199 V200 a198) (fun T205 V206 => gd (decide (tp T205 = tp T199 + 2)) (bd (ck T205 14 (some r194)) (fun _ => bd (ck T205 6 (some a198)) (fun _ => gd (inb 6 (ln T205 r194)) (lt (wR V206 r194 (6 : Int32).toNatClampNeg (some a198)) (fun V216 => bd (ck T205 2 (some this)) (fun _ => bd (ck T205 14 (fR V216 200 this)) (fun r222 => lt (tp T205) (fun a226 => lt (nT T205 6 0) (fun T227 => lt (zV T205 V216) (fun V228 => bd2 (Si_init T227 V228 a226) (fun T233 V234 => gd (decide (tp T233 = tp T227 + 2)) (bd (ck T233 14 (some r222)) (fun _ => bd (ck T233 6 (some a226)) (fun _ => gd (inb 7 (ln T233 r222)) (lt (wR V234 r222 (7 : Int32).toNatClampNeg (some a226)) (fun V244 => bd (ck T233 2 (some this)) (fun _ => bd (ck T233 14 (fR V244 200 this)) (fun r250 => lt (tp T233) (fun a254 => lt (nT T233 6 0) (fun T255 => lt (zV T233 V244) (fun V256 => bd2 (Si_init T255 V256 a254) (fun T261 V262 => gd (decide (tp T261 = tp T255 + 2)) (bd (ck T261 14 (some r250)) (fun _ => bd (ck T261 6 (some a254)) (fun _ => gd (inb 8 (ln T261 r250)) (lt (wR V262 r250 (8 : Int32).toNatClampNeg (some a254)) (fun V272 => bd (ck T261 2 (some this)) (fun _ => bd (ck T261 14 (fR V272 200 this)) (fun r278 => lt (tp T261) (fun a282 => lt (nT T261 6 0) (fun T283 => lt (zV T261 V272) (fun V284 => bd2 (Si_init T283 V284 a282) (fun T289 V290 => gd (decide (tp T289 = tp T283 + 2)) (bd (ck T289 14 (some r278)) (fun _ => bd (ck T289 6 (some a282)) (fun _ => gd (inb 9 (ln T289 r278)) (lt (wR V290 r278 (9 : Int32).toNatClampNeg (some a282)) (fun V300 => bd (ck T289 2 (some this)) (fun _ => bd (ck T289 14 (fR V300 200 this)) (fun r306 => lt (tp T289) (fun a310 => lt (nT T289 6 0) (fun T311 => lt (zV T289 V300) (fun V312 => bd2 (Si_init T311 V312 a310) (fun T317 V318 => gd (decide (tp T317 = tp T311 + 2)) (bd (ck T317 14 (some r306)) (fun _ => bd (ck T317 6 (some a310)) (fun _ => gd (inb 10 (ln T317 r306)) (lt (wR V318 r306 (10 : Int32).toNatClampNeg (some a310)) (fun V328 => bd (ck T317 2 (some this)) (fun _ => bd (ck T317 14 (fR V328 200 this)) (fun r334 => lt (tp T317) (fun a338 => lt (nT T317 6 0) (fun T339 => lt (zV T317 V328) (fun V340 => bd2 (Si_init T339 V340 a338) (fun T345 V346 => gd (decide (tp T345 = tp T339 + 2)) (bd (ck T345 14 (some r334)) (fun _ => bd (ck T345 6 (some a338)) (fun _ => gd (inb 11 (ln T345 r334)) (lt (wR V346 r334 (11 : Int32).toNatClampNeg (some a338)) (fun V356 => bd (ck T345 2 (some this)) (fun _ => bd (ck T345 15 (fR V356 201 this)) (fun r363 => lt (tp T345) (fun a367 => lt (nT T345 7 0) (fun T368 => lt (zV T345 V356) (fun V369 => bd2 (Wo_init T368 V369 a367) (fun T374 V375 => gd (decide (tp T374 = tp T368 + 2)) (bd (ck T374 15 (some r363)) (fun _ => bd (ck T374 7 (some a367)) (fun _ => gd (inb 0 (ln T374 r363)) (lt (wR V375 r363 (0 : Int32).toNatClampNeg (some a367)) (fun V385 => bd (ck T374 2 (some this)) (fun _ => bd (ck T374 15 (fR V385 201 this)) (fun r391 => lt (tp T374) (fun a395 => lt (nT T374 7 0) (fun T396 => lt (zV T374 V385) (fun V397 => bd2 (Wo_init T396 V397 a395) (fun T402 V403 => gd (decide (tp T402 = tp T396 + 2)) (bd (ck T402 15 (some r391)) (fun _ => bd (ck T402 7 (some a395)) (fun _ => gd (inb 1 (ln T402 r391)) (lt (wR V403 r391 (1 : Int32).toNatClampNeg (some a395)) (fun V413 => bd (ck T402 2 (some this)) (fun _ => bd (ck T402 15 (fR V413 201 this)) (fun r419 => lt (tp T402) (fun a423 => lt (nT T402 7 0) (fun T424 => lt (zV T402 V413) (fun V425 => bd2 (Wo_init T424 V425 a423) (fun T430 V431 => gd (decide (tp T430 = tp T424 + 2)) (bd (ck T430 15 (some r419)) (fun _ => bd (ck T430 7 (some a423)) (fun _ => gd (inb 2 (ln T430 r419)) (lt (wR V431 r419 (2 : Int32).toNatClampNeg (some a423)) (fun V441 => bd (ck T430 2 (some this)) (fun _ => bd (ck T430 15 (fR V441 201 this)) (fun r447 => lt (tp T430) (fun a451 => lt (nT T430 7 0) (fun T452 => lt (zV T430 V441) (fun V453 => bd2 (Wo_init T452 V453 a451) (fun T458 V459 => gd (decide (tp T458 = tp T452 + 2)) (bd (ck T458 15 (some r447)) (fun _ => bd (ck T458 7 (some a451)) (fun _ => gd (inb 3 (ln T458 r447)) (lt (wR V459 r447 (3 : Int32).toNatClampNeg (some a451)) (fun V469 => bd (ck T458 2 (some this)) (fun _ => bd (ck T458 15 (fR V469 201 this)) (fun r475 => lt (tp T458) (fun a479 => lt (nT T458 7 0) (fun T480 => lt (zV T458 V469) (fun V481 => bd2 (Wo_init T480 V481 a479) (fun T486 V487 => gd (decide (tp T486 = tp T480 + 2)) (bd (ck T486 15 (some r475)) (fun _ => bd (ck T486 7 (some a479)) (fun _ => gd (inb 4 (ln T486 r475)) (lt (wR V487 r475 (4 : Int32).toNatClampNeg (some a479)) (fun V497 => bd (ck T486 2 (some this)) (fun _ => bd (ck T486 15 (fR V497 201 this)) (fun r503 => lt (tp T486) (fun a507 => lt (nT T486 7 0) (fun T508 => lt (zV T486 V497) (fun V509 => bd2 (Wo_init T508 V509 a507) (fun T514 V515 => gd (decide (tp T514 = tp T508 + 2)) (bd (ck T514 15 (some r503)) (fun _ => bd (ck T514 7 (some a507)) (fun _ => gd (inb 5 (ln T514 r503)) (lt (wR V515 r503 (5 : Int32).toNatClampNeg (some a507)) (fun V525 => bd (ck T514 2 (some this)) (fun _ => bd (ck T514 15 (fR V525 201 this)) (fun r531 => lt (tp T514) (fun a535 => lt (nT T514 7 0) (fun T536 => lt (zV T514 V525) (fun V537 => bd2 (Wo_init T536 V537 a535) (fun T542 V543 => gd (decide (tp T542 = tp T536 + 2)) (bd (ck T542 15 (some r531)) (fun _ => bd (ck T542 7 (some a535)) (fun _ => gd (inb 6 (ln T542 r531)) (lt (wR V543 r531 (6 : Int32).toNatClampNeg (some a535)) (fun V553 => bd (ck T542 2 (some this)) (fun _ => bd (ck T542 15 (fR V553 201 this)) (fun r559 => lt (tp T542) (fun a563 => lt (nT T542 7 0) (fun T564 => lt (zV T542 V553) (fun V565 => bd2 (Wo_init T564 V565 a563) (fun T570 V571 => gd (decide (tp T570 = tp T564 + 2)) (bd (ck T570 15 (some r559)) (fun _ => bd (ck T570 7 (some a563)) (fun _ => gd (inb 7 (ln T570 r559)) (lt (wR V571 r559 (7 : Int32).toNatClampNeg (some a563)) (fun V581 => some (T570, V581))))))))))))))))))))))))))))))))))))))))))))))))))))))))))))))))))))))))))))))))))))))))))))))))))))))))))))))))))))))))))))))))))))))))))))))))))))))))))))))))))))))))))))))))))))))))))))))))))))))))))))))))))))))))))))))))))))))
set_option maxRecDepth 100000 in
def Re_init (T : Tx) (V : Vx) (this : Nat) : Option (Tx × Vx) :=
  lt (tp T) (fun a1 => lt (nT T 11 10) (fun T2 => lt (zV T V) (fun V3 => bd (ck T2 3 (some this)) (fun _ => lt (sR V3 300 this (some a1)) (fun V11 => lt (tp T2) (fun a13 => lt (nT T2 12 17) (fun T14 => lt (zV T2 V11) (fun V15 => bd (ck T14 3 (some this)) (fun _ => lt (sR V15 301 this (some a13)) (fun V23 => lt (tp T14) (fun a25 => lt (nT T14 11 17) (fun T26 => lt (zV T14 V23) (fun V27 => bd (ck T26 3 (some this)) (fun _ => lt (sR V27 302 this (some a25)) (fun V35 => lt (tp T26) (fun a37 => lt (nT T26 11 17) (fun T38 => lt (zV T26 V35) (fun V39 => bd (ck T38 3 (some this)) (fun _ => lt (sR V39 303 this (some a37)) (fun V47 => lt (tp T38) (fun a49 => lt (nT T38 11 17) (fun T50 => lt (zV T38 V47) (fun V51 => bd (ck T50 3 (some this)) (fun _ => lt (sR V51 304 this (some a49)) (fun V59 => some (T50, V59))))))))))))))))))))))))))
set_option maxRecDepth 100000 in
def Sc_init (T : Tx) (V : Vx) (this : Nat) : Option (Tx × Vx) :=
  lt (tp T) (fun a1 => lt (nT T 13 8) (fun T2 => lt (zV T V) (fun V3 => bd (ck T2 5 (some this)) (fun _ => lt (sR V3 500 this (some a1)) (fun V11 => lt (tp T2) (fun a13 => lt (nT T2 11 9) (fun T14 => lt (zV T2 V11) (fun V15 => bd (ck T14 5 (some this)) (fun _ => lt (sR V15 501 this (some a13)) (fun V23 => lt (tp T14) (fun a25 => lt (nT T14 11 9) (fun T26 => lt (zV T14 V23) (fun V27 => bd (ck T26 5 (some this)) (fun _ => lt (sR V27 502 this (some a25)) (fun V35 => lt (tp T26) (fun a37 => lt (nT T26 11 9) (fun T38 => lt (zV T26 V35) (fun V39 => bd (ck T38 5 (some this)) (fun _ => lt (sR V39 503 this (some a37)) (fun V47 => lt (tp T38) (fun a49 => lt (nT T38 12 9) (fun T50 => lt (zV T38 V47) (fun V51 => bd (ck T50 5 (some this)) (fun _ => lt (sR V51 504 this (some a49)) (fun V59 => bd (ck T50 13 (fR V59 500 this)) (fun r62 => lt (tp T50) (fun a66 => lt (nT T50 4 0) (fun T67 => lt (zV T50 V59) (fun V68 => bd2 (Ro_init T67 V68 a66 8) (fun T73 V74 => gd (decide (tp T73 = tp T67 + 1)) (bd (ck T73 13 (some r62)) (fun _ => bd (ck T73 4 (some a66)) (fun _ => gd (inb 0 (ln T73 r62)) (lt (wR V74 r62 (0 : Int32).toNatClampNeg (some a66)) (fun V84 => bd (ck T73 5 (some this)) (fun _ => bd (ck T73 13 (fR V84 500 this)) (fun r90 => lt (tp T73) (fun a94 => lt (nT T73 4 0) (fun T95 => lt (zV T73 V84) (fun V96 => bd2 (Ro_init T95 V96 a94 8) (fun T101 V102 => gd (decide (tp T101 = tp T95 + 1)) (bd (ck T101 13 (some r90)) (fun _ => bd (ck T101 4 (some a94)) (fun _ => gd (inb 1 (ln T101 r90)) (lt (wR V102 r90 (1 : Int32).toNatClampNeg (some a94)) (fun V112 => bd (ck T101 5 (some this)) (fun _ => bd (ck T101 13 (fR V112 500 this)) (fun r118 => lt (tp T101) (fun a122 => lt (nT T101 4 0) (fun T123 => lt (zV T101 V112) (fun V124 => bd2 (Ro_init T123 V124 a122 8) (fun T129 V130 => gd (decide (tp T129 = tp T123 + 1)) (bd (ck T129 13 (some r118)) (fun _ => bd (ck T129 4 (some a122)) (fun _ => gd (inb 2 (ln T129 r118)) (lt (wR V130 r118 (2 : Int32).toNatClampNeg (some a122)) (fun V140 => bd (ck T129 5 (some this)) (fun _ => bd (ck T129 13 (fR V140 500 this)) (fun r146 => lt (tp T129) (fun a150 => lt (nT T129 4 0) (fun T151 => lt (zV T129 V140) (fun V152 => bd2 (Ro_init T151 V152 a150 8) (fun T157 V158 => gd (decide (tp T157 = tp T151 + 1)) (bd (ck T157 13 (some r146)) (fun _ => bd (ck T157 4 (some a150)) (fun _ => gd (inb 3 (ln T157 r146)) (lt (wR V158 r146 (3 : Int32).toNatClampNeg (some a150)) (fun V168 => bd (ck T157 5 (some this)) (fun _ => bd (ck T157 13 (fR V168 500 this)) (fun r174 => lt (tp T157) (fun a178 => lt (nT T157 4 0) (fun T179 => lt (zV T157 V168) (fun V180 => bd2 (Ro_init T179 V180 a178 8) (fun T185 V186 => gd (decide (tp T185 = tp T179 + 1)) (bd (ck T185 13 (some r174)) (fun _ => bd (ck T185 4 (some a178)) (fun _ => gd (inb 4 (ln T185 r174)) (lt (wR V186 r174 (4 : Int32).toNatClampNeg (some a178)) (fun V196 => bd (ck T185 5 (some this)) (fun _ => bd (ck T185 13 (fR V196 500 this)) (fun r202 => lt (tp T185) (fun a206 => lt (nT T185 4 0) (fun T207 => lt (zV T185 V196) (fun V208 => bd2 (Ro_init T207 V208 a206 8) (fun T213 V214 => gd (decide (tp T213 = tp T207 + 1)) (bd (ck T213 13 (some r202)) (fun _ => bd (ck T213 4 (some a206)) (fun _ => gd (inb 5 (ln T213 r202)) (lt (wR V214 r202 (5 : Int32).toNatClampNeg (some a206)) (fun V224 => bd (ck T213 5 (some this)) (fun _ => bd (ck T213 13 (fR V224 500 this)) (fun r230 => lt (tp T213) (fun a234 => lt (nT T213 4 0) (fun T235 => lt (zV T213 V224) (fun V236 => bd2 (Ro_init T235 V236 a234 8) (fun T241 V242 => gd (decide (tp T241 = tp T235 + 1)) (bd (ck T241 13 (some r230)) (fun _ => bd (ck T241 4 (some a234)) (fun _ => gd (inb 6 (ln T241 r230)) (lt (wR V242 r230 (6 : Int32).toNatClampNeg (some a234)) (fun V252 => bd (ck T241 5 (some this)) (fun _ => bd (ck T241 13 (fR V252 500 this)) (fun r258 => lt (tp T241) (fun a262 => lt (nT T241 4 0) (fun T263 => lt (zV T241 V252) (fun V264 => bd2 (Ro_init T263 V264 a262 8) (fun T269 V270 => gd (decide (tp T269 = tp T263 + 1)) (bd (ck T269 13 (some r258)) (fun _ => bd (ck T269 4 (some a262)) (fun _ => gd (inb 7 (ln T269 r258)) (lt (wR V270 r258 (7 : Int32).toNatClampNeg (some a262)) (fun V280 => some (T269, V280)))))))))))))))))))))))))))))))))))))))))))))))))))))))))))))))))))))))))))))))))))))))))))))))))))))))))))))))))
set_option maxRecDepth 100000 in
def Mo_init (T : Tx) (V : Vx) (this : Nat) : Option (Tx × Vx) :=
  lt (tp T) (fun a1 => lt (nT T 11 200) (fun T2 => lt (zV T V) (fun V3 => bd (ck T2 9 (some this)) (fun _ => lt (sR V3 901 this (some a1)) (fun V11 => lt (tp T2) (fun a13 => lt (nT T2 11 167) (fun T14 => lt (zV T2 V11) (fun V15 => bd (ck T14 9 (some this)) (fun _ => lt (sR V15 903 this (some a13)) (fun V23 => lt (tp T14) (fun a25 => lt (nT T14 11 167) (fun T26 => lt (zV T14 V23) (fun V27 => bd (ck T26 9 (some this)) (fun _ => lt (sR V27 904 this (some a25)) (fun V35 => lt (tp T26) (fun a37 => lt (nT T26 11 19) (fun T38 => lt (zV T26 V35) (fun V39 => bd (ck T38 9 (some this)) (fun _ => lt (sR V39 905 this (some a37)) (fun V47 => lt (tp T38) (fun a49 => lt (nT T38 11 114) (fun T50 => lt (zV T38 V47) (fun V51 => bd (ck T50 9 (some this)) (fun _ => lt (sR V51 906 this (some a49)) (fun V59 => lt (tp T50) (fun a61 => lt (nT T50 11 512) (fun T62 => lt (zV T50 V59) (fun V63 => bd (ck T62 9 (some this)) (fun _ => lt (sR V63 908 this (some a61)) (fun V71 => lt (tp T62) (fun a73 => lt (nT T62 11 512) (fun T74 => lt (zV T62 V71) (fun V75 => bd (ck T74 9 (some this)) (fun _ => lt (sR V75 909 this (some a73)) (fun V83 => lt (tp T74) (fun a85 => lt (nT T74 11 6144) (fun T86 => lt (zV T74 V83) (fun V87 => bd (ck T86 9 (some this)) (fun _ => lt (sR V87 910 this (some a85)) (fun V95 => lt (tp T86) (fun a97 => lt (nT T86 11 5120) (fun T98 => lt (zV T86 V95) (fun V99 => bd (ck T98 9 (some this)) (fun _ => lt (sR V99 912 this (some a97)) (fun V107 => lt (tp T98) (fun a109 => lt (nT T98 11 10) (fun T110 => lt (zV T98 V107) (fun V111 => bd (ck T110 9 (some this)) (fun _ => lt (sR V111 913 this (some a109)) (fun V119 => lt (tp T110) (fun a121 => lt (nT T110 11 10) (fun T122 => lt (zV T110 V119) (fun V123 => bd (ck T122 9 (some this)) (fun _ => lt (sR V123 915 this (some a121)) (fun V131 => lt (tp T122) (fun a133 => lt (nT T122 12 1024) (fun T134 => lt (zV T122 V131) (fun V135 => bd (ck T134 9 (some this)) (fun _ => lt (sR V135 916 this (some a133)) (fun V143 => lt (tp T134) (fun a145 => lt (nT T134 11 17) (fun T146 => lt (zV T134 V143) (fun V147 => bd (ck T146 9 (some this)) (fun _ => lt (sR V147 917 this (some a145)) (fun V155 => lt (tp T146) (fun a157 => lt (nT T146 12 17) (fun T158 => lt (zV T146 V155) (fun V159 => bd (ck T158 9 (some this)) (fun _ => lt (sR V159 918 this (some a157)) (fun V167 => lt (tp T158) (fun a169 => lt (nT T158 11 160) (fun T170 => lt (zV T158 V167) (fun V171 => bd (ck T170 9 (some this)) (fun _ => lt (sR V171 919 this (some a169)) (fun V179 => bd (Mo_sign4 T170 V179 this 0 0 98 101 101 0) (fun V182 => bd (Mo_sign4 T170 V182 this 0 1 108 101 97 102) (fun V184 => bd (Mo_sign4 T170 V184 this 0 2 101 121 101 0) (fun V186 => bd (Mo_sign4 T170 V186 this 0 3 99 97 110 0) (fun V188 => bd (Mo_sign4 T170 V188 this 1 (-4) 110 0 0 0) (fun V190 => bd (Mo_sign4 T170 V190 this 1 (-4) 116 0 0 0) (fun V192 => bd (Mo_sign4 T170 V192 this 1 (-4) 98 0 0 0) (fun V194 => bd (Mo_sign4 T170 V194 this 1 (-4) 108 0 0 0) (fun V196 => bd (Mo_sign4 T170 V196 this 2 4 0 0 0 0) (fun V198 => bd (Mo_sign4 T170 V198 this 2 1 0 0 0 0) (fun V200 => bd (Mo_word6 T170 V200 this 4 98 101 108 101 97 102) (fun V202 => bd (Mo_word6 T170 V202 this 1 108 101 97 102 0 0) (fun V204 => bd (Mo_word6 T170 V204 this 4 99 97 110 111 101 0) (fun V206 => bd (Mo_word6 T170 V206 this 3 99 97 110 0 0 0) (fun V208 => bd (Mo_word6 T170 V208 this 5 99 97 110 116 0 0) (fun V210 => bd (Mo_word6 T170 V210 this 2 98 101 101 0 0 0) (fun V212 => bd (Mo_word6 T170 V212 this 0 98 101 101 0 0 0) (fun V214 => bd (ck T170 11 (fR V214 903 this)) (fun r215 => gd (inb 166 (ln T170 r215)) (lt (wI V214 r215 (166 : Int32).toNatClampNeg 1) (fun V220 => bd (Mo_anew T170 V220 this) (fun V223 => some (T170, V223)))))))))))))))))))))))))))))))))))))))))))))))))))))))))))))))))))))))))))))))))))))))))))))))))
set_option maxHeartbeats 4000000 in
set_option maxRecDepth 100000 in
theorem w_Hi_init {p : Program} {l : Launch} {e : Env} {R : Room} {s : State} {m : MethodId} {args : Array Value} {below : List Frame} {meth : Method} {c : Code} {D : va_G} {ca : Nat → ClassId} {b : Nat} {T : Tx} {V : Vx} (G : GX p s m meth c cX0_init 1 (Option.none : Option Jvm.ClassFile.FieldType) RX0 "<init>" D ca b) (hR : 1 ≤ R.frames ∧ 20 ≤ R.locals) {this : Nat} (hC : 2 ≤ R.cells ∧ 12 ≤ R.slots) {Tf : Tx} {Vf : Vx} (k_this : kd T this = 0) (h : Hi_init T V this = some (Tf, Vf)) : WG p l e R s m args below meth c D ca b 1 (QG D ca b none Tf Vf below args s 2 12) 0 0 T V 0 [(0, rv b (some this))] [] := by
  unfold Hi_init at h
  refine g_aload_n (pc := 0) G dX0_init_0 0 rfl ?_
  refine g_objInit (pc := 1) G (q116 G.2.2.2.2.1) (q77 G.2.2.2.2.1) (q_objc G.2.2.2.2.1) dX0_init_1 ⟨Nat.le_trans (Nat.le_of_ble_eq_true rfl) hR.1, Nat.le_trans (Nat.le_of_ble_eq_true rfl) hR.2⟩ ?_
  refine g_aload_n (pc := 4) G dX0_init_4 0 rfl ?_
  refine g_bipush (pc := 5) G (v := 6) dX0_init_5 (by decide) ?_
  obtain ⟨a1, e4, h⟩ := lt_e h
  obtain ⟨T2, e5, h⟩ := lt_e h
  obtain ⟨V3, e6, h⟩ := lt_e h
  refine g_newaI (pc := 7) G (q110 G.2.2.2.2.1) (N := 6) (by decide) (by decide) (Nat.le_of_ble_eq_true rfl) e5 e6 e4 ⟨Nat.le_trans (Nat.le_of_ble_eq_true rfl) hC.1, Nat.le_trans (Nat.le_of_ble_eq_true rfl) hC.2⟩ dX0_init_7 ?_
  have k7 : kd T2 a1 = 11 := by
    rw [← e5, ← e4]
    exact nT_kd _ _ _
  refine g_widen (sl := 6) (Nat.le_of_ble_eq_true rfl) ?_
  obtain ⟨r10, e9, h⟩ := bd_e h
  have k8 : kd T2 this = 0 := by
    obtain ⟨ee, k0⟩ := ck_e e9
    cases ee
    exact k0
  obtain ⟨V11, e12, h⟩ := lt_e h
  refine g_putRF (pc := 9) G ci_0 (uw_0 G.2.2.2.2.1) (k := 0) (by decide) rfl rfl k8 rfl rfl rfl (fun _ => ⟨rfl, rfl⟩) (q117 G.2.2.2.2.1) e12 dX0_init_9 ?_
  refine g_aload_n (pc := 12) G dX0_init_12 0 rfl ?_
  refine g_bipush (pc := 13) G (v := 6) dX0_init_13 (by decide) ?_
  obtain ⟨a13, e16, h⟩ := lt_e h
  obtain ⟨T14, e17, h⟩ := lt_e h
  obtain ⟨V15, e18, h⟩ := lt_e h
  refine g_newaI (pc := 15) G (q110 G.2.2.2.2.1) (N := 6) (by decide) (by decide) (Nat.le_of_ble_eq_true rfl) e17 e18 e16 ⟨Nat.le_trans (Nat.le_of_ble_eq_true rfl) hC.1, Nat.le_trans (Nat.le_of_ble_eq_true rfl) hC.2⟩ dX0_init_15 ?_
  have k19 : kd T14 a13 = 11 := by
    rw [← e17, ← e16]
    exact nT_kd _ _ _
  refine g_widen (sl := 12) (Nat.le_of_ble_eq_true rfl) ?_
  obtain ⟨r22, e21, h⟩ := bd_e h
  have k20 : kd T14 this = 0 := by
    obtain ⟨ee, k0⟩ := ck_e e21
    cases ee
    exact k0
  obtain ⟨V23, e24, h⟩ := lt_e h
  refine g_putRF (pc := 17) G ci_0 (uw_0 G.2.2.2.2.1) (k := 1) (by decide) rfl rfl k20 rfl rfl rfl (fun _ => ⟨rfl, rfl⟩) (q118 G.2.2.2.2.1) e24 dX0_init_17 ?_
  cases h
  exact g_vret (pc := 20) G dX0_init_20
theorem c_Hi_init (l : Launch) (D : va_G) (ca : Nat → ClassId) (b : Nat) {T : Tx} {V : Vx} {this : Nat} {Tf : Tx} {Vf : Vx} (k_this : kd T this = 0) (h : Hi_init T V this = some (Tf, Vf)) : MG l yX0_init cX0_init 1 (Option.none : Option Jvm.ClassFile.FieldType) 1 20 2 12 D ca b [rv b (some this)] T V none Tf Vf :=
  MG.ofWG (L := [(0, rv b (some this))]) (by decide +kernel) rfl (Nat.le_of_ble_eq_true rfl) (fun _ _ _ _ _ _ _ G _ => w_Hi_init G ⟨Nat.le_refl _, Nat.le_refl _⟩ ⟨Nat.le_refl _, Nat.le_refl _⟩ k_this h)

set_option maxHeartbeats 4000000 in
set_option maxRecDepth 100000 in
theorem w_Le_init {p : Program} {l : Launch} {e : Env} {R : Room} {s : State} {m : MethodId} {args : Array Value} {below : List Frame} {meth : Method} {c : Code} {D : va_G} {ca : Nat → ClassId} {b : Nat} {T : Tx} {V : Vx} (G : GX p s m meth c cX1_init 2 (Option.none : Option Jvm.ClassFile.FieldType) RX1 "<init>" D ca b) (hR : 1 ≤ R.frames ∧ 21 ≤ R.locals) {this : Nat} {p1 : Int32} (hC : 1 ≤ R.cells ∧ (if p1 < 0 then 0 else p1).toNatClampNeg ≤ R.slots) {Tf : Tx} {Vf : Vx} (k_this : kd T this = 1) (h : Le_init T V this p1 = some (Tf, Vf)) : WG p l e R s m args below meth c D ca b 2 (QG D ca b none Tf Vf below args s 1 (if p1 < 0 then 0 else p1).toNatClampNeg) 0 0 T V 0 [(0, rv b (some this)), (1, .int p1)] [] := by
  unfold Le_init at h
  refine g_aload_n (pc := 0) G dX1_init_0 0 rfl ?_
  refine g_objInit (pc := 1) G (q84 G.2.2.2.2.1) (q77 G.2.2.2.2.1) (q_objc G.2.2.2.2.1) dX1_init_1 ⟨Nat.le_trans (Nat.le_of_ble_eq_true rfl) hR.1, Nat.le_trans (Nat.le_of_ble_eq_true rfl) hR.2⟩ ?_
  refine g_aload_n (pc := 4) G dX1_init_4 0 rfl ?_
  refine g_iload_n (pc := 5) G dX1_init_5 1 rfl ?_
  refine g_iconst (pc := 6) G (v := 0) dX1_init_6 (by decide) ?_
  refine g_mmax (pc := 7) G (q85 G.2.2.2.2.1) (q86 G.2.2.2.2.1) (q55 G.2.2.2.2.1) (q_mmax G.2.2.2.2.1) ⟨Nat.le_trans (Nat.le_of_ble_eq_true rfl) hR.1, Nat.le_trans (Nat.le_of_ble_eq_true rfl) hR.2⟩ ⟨Nat.le_trans (Nat.le_of_ble_eq_true rfl) hC.1, Nat.zero_le _⟩ dX1_init_7 ?_
  obtain ⟨z8, h⟩ := gd_e h
  obtain ⟨a1, e4, h⟩ := lt_e h
  obtain ⟨T2, e5, h⟩ := lt_e h
  obtain ⟨V3, e6, h⟩ := lt_e h
  refine g_newaC (pc := 10) G (q95 G.2.2.2.2.1) (N := (if p1 < 0 then 0 else p1).toNatClampNeg) (oka_e z8).1 rfl (oka_b z8 (by omega)) e5 e6 e4 ⟨Nat.le_trans (Nat.le_of_ble_eq_true rfl) hC.1, Nat.le_trans (Nat.le_of_eq (Nat.zero_add _)) hC.2⟩ dX1_init_10 ?_
  have k7 : kd T2 a1 = 10 := by
    rw [← e5, ← e4]
    exact nT_kd _ _ _
  refine g_widen (sl := (if p1 < 0 then 0 else p1).toNatClampNeg) (Nat.le_of_eq (Nat.zero_add _)) ?_
  obtain ⟨r11, e10, h⟩ := bd_e h
  have k9 : kd T2 this = 1 := by
    obtain ⟨ee, k0⟩ := ck_e e10
    cases ee
    exact k0
  obtain ⟨V12, e13, h⟩ := lt_e h
  refine g_putRF (pc := 12) G ci_1 (uw_1 G.2.2.2.2.1) (k := 0) (by decide) rfl rfl k9 rfl rfl rfl (fun _ => ⟨rfl, rfl⟩) (q88 G.2.2.2.2.1) e13 dX1_init_12 ?_
  cases h
  exact g_vret (pc := 15) G dX1_init_15
theorem c_Le_init (l : Launch) (D : va_G) (ca : Nat → ClassId) (b : Nat) {T : Tx} {V : Vx} {this : Nat} {p1 : Int32} {Tf : Tx} {Vf : Vx} (k_this : kd T this = 1) (h : Le_init T V this p1 = some (Tf, Vf)) : MG l yX1_init cX1_init 2 (Option.none : Option Jvm.ClassFile.FieldType) 1 21 1 (if p1 < 0 then 0 else p1).toNatClampNeg D ca b [rv b (some this), .int p1] T V none Tf Vf :=
  MG.ofWG (L := [(0, rv b (some this)), (1, .int p1)]) (by decide +kernel) rfl (Nat.le_of_ble_eq_true rfl) (fun _ _ _ _ _ _ _ G _ => w_Le_init G ⟨Nat.le_refl _, Nat.le_refl _⟩ ⟨Nat.le_refl _, Nat.le_refl _⟩ k_this h)

set_option maxHeartbeats 4000000 in
set_option maxRecDepth 100000 in
theorem w_Ro_init {p : Program} {l : Launch} {e : Env} {R : Room} {s : State} {m : MethodId} {args : Array Value} {below : List Frame} {meth : Method} {c : Code} {D : va_G} {ca : Nat → ClassId} {b : Nat} {T : Tx} {V : Vx} (G : GX p s m meth c cX5_init 2 (Option.none : Option Jvm.ClassFile.FieldType) RX5 "<init>" D ca b) (hR : 1 ≤ R.frames ∧ 21 ≤ R.locals) {this : Nat} {p1 : Int32} (hC : 1 ≤ R.cells ∧ (if p1 < 0 then 0 else p1).toNatClampNeg ≤ R.slots) {Tf : Tx} {Vf : Vx} (k_this : kd T this = 4) (h : Ro_init T V this p1 = some (Tf, Vf)) : WG p l e R s m args below meth c D ca b 2 (QG D ca b none Tf Vf below args s 1 (if p1 < 0 then 0 else p1).toNatClampNeg) 0 0 T V 0 [(0, rv b (some this)), (1, .int p1)] [] := by
  unfold Ro_init at h
  refine g_aload_n (pc := 0) G dX5_init_0 0 rfl ?_
  refine g_objInit (pc := 1) G (q101 G.2.2.2.2.1) (q77 G.2.2.2.2.1) (q_objc G.2.2.2.2.1) dX5_init_1 ⟨Nat.le_trans (Nat.le_of_ble_eq_true rfl) hR.1, Nat.le_trans (Nat.le_of_ble_eq_true rfl) hR.2⟩ ?_
  refine g_aload_n (pc := 4) G dX5_init_4 0 rfl ?_
  refine g_iload_n (pc := 5) G dX5_init_5 1 rfl ?_
  refine g_iconst (pc := 6) G (v := 0) dX5_init_6 (by decide) ?_
  refine g_mmax (pc := 7) G (q102 G.2.2.2.2.1) (q86 G.2.2.2.2.1) (q55 G.2.2.2.2.1) (q_mmax G.2.2.2.2.1) ⟨Nat.le_trans (Nat.le_of_ble_eq_true rfl) hR.1, Nat.le_trans (Nat.le_of_ble_eq_true rfl) hR.2⟩ ⟨Nat.le_trans (Nat.le_of_ble_eq_true rfl) hC.1, Nat.zero_le _⟩ dX5_init_7 ?_
  obtain ⟨z8, h⟩ := gd_e h
  obtain ⟨a1, e4, h⟩ := lt_e h
  obtain ⟨T2, e5, h⟩ := lt_e h
  obtain ⟨V3, e6, h⟩ := lt_e h
  refine g_newaI (pc := 10) G (q110 G.2.2.2.2.1) (N := (if p1 < 0 then 0 else p1).toNatClampNeg) (oka_e z8).1 rfl (oka_b z8 (by omega)) e5 e6 e4 ⟨Nat.le_trans (Nat.le_of_ble_eq_true rfl) hC.1, Nat.le_trans (Nat.le_of_eq (Nat.zero_add _)) hC.2⟩ dX5_init_10 ?_
  have k7 : kd T2 a1 = 11 := by
    rw [← e5, ← e4]
    exact nT_kd _ _ _
  refine g_widen (sl := (if p1 < 0 then 0 else p1).toNatClampNeg) (Nat.le_of_eq (Nat.zero_add _)) ?_
  obtain ⟨r11, e10, h⟩ := bd_e h
  have k9 : kd T2 this = 4 := by
    obtain ⟨ee, k0⟩ := ck_e e10
    cases ee
    exact k0
  obtain ⟨V12, e13, h⟩ := lt_e h
  refine g_putRF (pc := 12) G ci_4 (uw_4 G.2.2.2.2.1) (k := 0) (by decide) rfl rfl k9 rfl rfl rfl (fun _ => ⟨rfl, rfl⟩) (q103 G.2.2.2.2.1) e13 dX5_init_12 ?_
  cases h
  exact g_vret (pc := 15) G dX5_init_15
theorem c_Ro_init (l : Launch) (D : va_G) (ca : Nat → ClassId) (b : Nat) {T : Tx} {V : Vx} {this : Nat} {p1 : Int32} {Tf : Tx} {Vf : Vx} (k_this : kd T this = 4) (h : Ro_init T V this p1 = some (Tf, Vf)) : MG l yX5_init cX5_init 2 (Option.none : Option Jvm.ClassFile.FieldType) 1 21 1 (if p1 < 0 then 0 else p1).toNatClampNeg D ca b [rv b (some this), .int p1] T V none Tf Vf :=
  MG.ofWG (L := [(0, rv b (some this)), (1, .int p1)]) (by decide +kernel) rfl (Nat.le_of_ble_eq_true rfl) (fun _ _ _ _ _ _ _ G _ => w_Ro_init G ⟨Nat.le_refl _, Nat.le_refl _⟩ ⟨Nat.le_refl _, Nat.le_refl _⟩ k_this h)

set_option maxHeartbeats 4000000 in
set_option maxRecDepth 100000 in
theorem w_Si_init {p : Program} {l : Launch} {e : Env} {R : Room} {s : State} {m : MethodId} {args : Array Value} {below : List Frame} {meth : Method} {c : Code} {D : va_G} {ca : Nat → ClassId} {b : Nat} {T : Tx} {V : Vx} (G : GX p s m meth c cX7_init 1 (Option.none : Option Jvm.ClassFile.FieldType) RX7 "<init>" D ca b) (hR : 2 ≤ R.frames ∧ 42 ≤ R.locals) {this : Nat} (hC : 2 ≤ R.cells ∧ 6 ≤ R.slots) {Tf : Tx} {Vf : Vx} (k_this : kd T this = 6) (h : Si_init T V this = some (Tf, Vf)) : WG p l e R s m args below meth c D ca b 1 (QG D ca b none Tf Vf below args s 2 6) 0 0 T V 0 [(0, rv b (some this))] [] := by
  unfold Si_init at h
  refine g_aload_n (pc := 0) G dX7_init_0 0 rfl ?_
  refine g_objInit (pc := 1) G (q248 G.2.2.2.2.1) (q77 G.2.2.2.2.1) (q_objc G.2.2.2.2.1) dX7_init_1 ⟨Nat.le_trans (Nat.le_of_ble_eq_true rfl) hR.1, Nat.le_trans (Nat.le_of_ble_eq_true rfl) hR.2⟩ ?_
  refine g_aload_n (pc := 4) G dX7_init_4 0 rfl ?_
  obtain ⟨a1, e4, h⟩ := lt_e h
  obtain ⟨T2, e5, h⟩ := lt_e h
  obtain ⟨V3, e6, h⟩ := lt_e h
  refine g_new (pc := 5) G ci_1 (uw_1 G.2.2.2.2.1) df_1 (q249 G.2.2.2.2.1) (q80 G.2.2.2.2.1) (q54 G.2.2.2.2.1) e5 e6 e4 ⟨Nat.le_trans (Nat.le_of_ble_eq_true rfl) hC.1, Nat.le_trans (Nat.le_of_ble_eq_true rfl) hC.2⟩ dX7_init_5 ?_
  have k7 : kd T2 a1 = 1 := by
    rw [← e5, ← e4]
    exact nT_kd _ _ _
  refine g_widen (sl := 2) (Nat.le_of_ble_eq_true rfl) ?_
  refine g_dup (pc := 8) G dX7_init_8 rfl ?_
  refine g_iconst (pc := 9) G (v := 4) dX7_init_9 (by decide) ?_
  obtain ⟨T8, V9, e10, h⟩ := bd2_e h
  obtain ⟨z11, h⟩ := gd_e h
  refine g_callI (pc := 10) (As := [.int 4]) (rest := [rv b (some a1), rv b (some this)]) (st2 := [rv b (some a1), rv b (some this)]) G (c_Le_init l D ca b k7 e10) (mb_Le_init G.2.2.2.2.1) (q82 G.2.2.2.2.1) (q250 G.2.2.2.2.1) rfl rfl rfl (Nat.le_of_ble_eq_true rfl) ⟨Nat.le_trans (Nat.le_of_ble_eq_true rfl) hR.1, Nat.le_trans (Nat.le_of_ble_eq_true rfl) hR.2⟩ ⟨Nat.le_trans (Nat.le_of_ble_eq_true rfl) hC.1, Nat.le_trans (Nat.le_of_ble_eq_true rfl) hC.2⟩ (of_decide_eq_true z11) rfl dX7_init_10 ?_
  refine g_widen (sl := 6) (Nat.le_of_ble_eq_true rfl) ?_
  obtain ⟨r14, e13, h⟩ := bd_e h
  have k12 : kd T8 this = 6 := by
    obtain ⟨ee, k0⟩ := ck_e e13
    cases ee
    exact k0
  obtain ⟨r19, e18, h⟩ := bd_e h
  have k17 : kd T8 a1 = 1 := by
    obtain ⟨ee, k0⟩ := ck_e e18
    cases ee
    exact k0
  obtain ⟨V15, e16, h⟩ := lt_e h
  refine g_putRF (pc := 13) G ci_6 (uw_6 G.2.2.2.2.1) (k := 0) (by decide) rfl rfl k12 rfl rfl rfl (fun _ => ⟨rfl, rfl⟩) (q251 G.2.2.2.2.1) e16 dX7_init_13 ?_
  cases h
  exact g_vret (pc := 16) G dX7_init_16
theorem c_Si_init (l : Launch) (D : va_G) (ca : Nat → ClassId) (b : Nat) {T : Tx} {V : Vx} {this : Nat} {Tf : Tx} {Vf : Vx} (k_this : kd T this = 6) (h : Si_init T V this = some (Tf, Vf)) : MG l yX7_init cX7_init 1 (Option.none : Option Jvm.ClassFile.FieldType) 2 42 2 6 D ca b [rv b (some this)] T V none Tf Vf :=
  MG.ofWG (L := [(0, rv b (some this))]) (by decide +kernel) rfl (Nat.le_of_ble_eq_true rfl) (fun _ _ _ _ _ _ _ G _ => w_Si_init G ⟨Nat.le_refl _, Nat.le_refl _⟩ ⟨Nat.le_refl _, Nat.le_refl _⟩ k_this h)

set_option maxHeartbeats 4000000 in
set_option maxRecDepth 100000 in
theorem w_Wo_init {p : Program} {l : Launch} {e : Env} {R : Room} {s : State} {m : MethodId} {args : Array Value} {below : List Frame} {meth : Method} {c : Code} {D : va_G} {ca : Nat → ClassId} {b : Nat} {T : Tx} {V : Vx} (G : GX p s m meth c cX8_init 1 (Option.none : Option Jvm.ClassFile.FieldType) RX8 "<init>" D ca b) (hR : 2 ≤ R.frames ∧ 42 ≤ R.locals) {this : Nat} (hC : 2 ≤ R.cells ∧ 10 ≤ R.slots) {Tf : Tx} {Vf : Vx} (k_this : kd T this = 7) (h : Wo_init T V this = some (Tf, Vf)) : WG p l e R s m args below meth c D ca b 1 (QG D ca b none Tf Vf below args s 2 10) 0 0 T V 0 [(0, rv b (some this))] [] := by
  unfold Wo_init at h
  refine g_aload_n (pc := 0) G dX8_init_0 0 rfl ?_
  refine g_objInit (pc := 1) G (q283 G.2.2.2.2.1) (q77 G.2.2.2.2.1) (q_objc G.2.2.2.2.1) dX8_init_1 ⟨Nat.le_trans (Nat.le_of_ble_eq_true rfl) hR.1, Nat.le_trans (Nat.le_of_ble_eq_true rfl) hR.2⟩ ?_
  refine g_aload_n (pc := 4) G dX8_init_4 0 rfl ?_
  obtain ⟨a1, e4, h⟩ := lt_e h
  obtain ⟨T2, e5, h⟩ := lt_e h
  obtain ⟨V3, e6, h⟩ := lt_e h
  refine g_new (pc := 5) G ci_1 (uw_1 G.2.2.2.2.1) df_1 (q284 G.2.2.2.2.1) (q80 G.2.2.2.2.1) (q54 G.2.2.2.2.1) e5 e6 e4 ⟨Nat.le_trans (Nat.le_of_ble_eq_true rfl) hC.1, Nat.le_trans (Nat.le_of_ble_eq_true rfl) hC.2⟩ dX8_init_5 ?_
  have k7 : kd T2 a1 = 1 := by
    rw [← e5, ← e4]
    exact nT_kd _ _ _
  refine g_widen (sl := 2) (Nat.le_of_ble_eq_true rfl) ?_
  refine g_dup (pc := 8) G dX8_init_8 rfl ?_
  refine g_bipush (pc := 9) G (v := 8) dX8_init_9 (by decide) ?_
  obtain ⟨T8, V9, e10, h⟩ := bd2_e h
  obtain ⟨z11, h⟩ := gd_e h
  refine g_callI (pc := 11) (As := [.int 8]) (rest := [rv b (some a1), rv b (some this)]) (st2 := [rv b (some a1), rv b (some this)]) G (c_Le_init l D ca b k7 e10) (mb_Le_init G.2.2.2.2.1) (q82 G.2.2.2.2.1) (q285 G.2.2.2.2.1) rfl rfl rfl (Nat.le_of_ble_eq_true rfl) ⟨Nat.le_trans (Nat.le_of_ble_eq_true rfl) hR.1, Nat.le_trans (Nat.le_of_ble_eq_true rfl) hR.2⟩ ⟨Nat.le_trans (Nat.le_of_ble_eq_true rfl) hC.1, Nat.le_trans (Nat.le_of_ble_eq_true rfl) hC.2⟩ (of_decide_eq_true z11) rfl dX8_init_11 ?_
  refine g_widen (sl := 10) (Nat.le_of_ble_eq_true rfl) ?_
  obtain ⟨r14, e13, h⟩ := bd_e h
  have k12 : kd T8 this = 7 := by
    obtain ⟨ee, k0⟩ := ck_e e13
    cases ee
    exact k0
  obtain ⟨r19, e18, h⟩ := bd_e h
  have k17 : kd T8 a1 = 1 := by
    obtain ⟨ee, k0⟩ := ck_e e18
    cases ee
    exact k0
  obtain ⟨V15, e16, h⟩ := lt_e h
  refine g_putRF (pc := 14) G ci_7 (uw_7 G.2.2.2.2.1) (k := 0) (by decide) rfl rfl k12 rfl rfl rfl (fun _ => ⟨rfl, rfl⟩) (q286 G.2.2.2.2.1) e16 dX8_init_14 ?_
  cases h
  exact g_vret (pc := 17) G dX8_init_17
theorem c_Wo_init (l : Launch) (D : va_G) (ca : Nat → ClassId) (b : Nat) {T : Tx} {V : Vx} {this : Nat} {Tf : Tx} {Vf : Vx} (k_this : kd T this = 7) (h : Wo_init T V this = some (Tf, Vf)) : MG l yX8_init cX8_init 1 (Option.none : Option Jvm.ClassFile.FieldType) 2 42 2 10 D ca b [rv b (some this)] T V none Tf Vf :=
  MG.ofWG (L := [(0, rv b (some this))]) (by decide +kernel) rfl (Nat.le_of_ble_eq_true rfl) (fun _ _ _ _ _ _ _ G _ => w_Wo_init G ⟨Nat.le_refl _, Nat.le_refl _⟩ ⟨Nat.le_refl _, Nat.le_refl _⟩ k_this h)

set_option maxHeartbeats 4000000 in
set_option maxRecDepth 100000 in
theorem w_Lx_init {p : Program} {l : Launch} {e : Env} {R : Room} {s : State} {m : MethodId} {args : Array Value} {below : List Frame} {meth : Method} {c : Code} {D : va_G} {ca : Nat → ClassId} {b : Nat} {T : Tx} {V : Vx} (G : GX p s m meth c cX2_init 2 (Option.none : Option Jvm.ClassFile.FieldType) RX2 "<init>" D ca b) (hR : 3 ≤ R.frames ∧ 62 ≤ R.locals) {this : Nat} (hC : 62 ≤ R.cells ∧ 236 ≤ R.slots) {Tf : Tx} {Vf : Vx} (k_this : kd T this = 2) (h : Lx_init T V this = some (Tf, Vf)) : WG p l e R s m args below meth c D ca b 2 (QG D ca b none Tf Vf below args s 62 236) 0 0 T V 0 [(0, rv b (some this))] [] := by
  unfold Lx_init at h
  refine g_aload_n (pc := 0) G dX2_init_0 0 rfl ?_
  refine g_objInit (pc := 1) G (q239 G.2.2.2.2.1) (q77 G.2.2.2.2.1) (q_objc G.2.2.2.2.1) dX2_init_1 ⟨Nat.le_trans (Nat.le_of_ble_eq_true rfl) hR.1, Nat.le_trans (Nat.le_of_ble_eq_true rfl) hR.2⟩ ?_
  refine g_aload_n (pc := 4) G dX2_init_4 0 rfl ?_
  refine g_bipush (pc := 5) G (v := 12) dX2_init_5 (by decide) ?_
  obtain ⟨a1, e4, h⟩ := lt_e h
  obtain ⟨T2, e5, h⟩ := lt_e h
  obtain ⟨V3, e6, h⟩ := lt_e h
  refine g_newq (pc := 7) G (q240 G.2.2.2.2.1) (q241 G.2.2.2.2.1) (by decide) (t0 := 4) rfl (N := 12) (by decide) (by decide) (Nat.le_of_ble_eq_true rfl) e5 e6 e4 ⟨Nat.le_trans (Nat.le_of_ble_eq_true rfl) hC.1, Nat.le_trans (Nat.le_of_ble_eq_true rfl) hC.2⟩ dX2_init_7 ?_
  have k7 : kd T2 a1 = 14 := by
    rw [← e5, ← e4]
    exact nT_kd _ _ _
  refine g_widen (sl := 12) (Nat.le_of_ble_eq_true rfl) ?_
  obtain ⟨r10, e9, h⟩ := bd_e h
  have k8 : kd T2 this = 2 := by
    obtain ⟨ee, k0⟩ := ck_e e9
    cases ee
    exact k0
  obtain ⟨V11, e12, h⟩ := lt_e h
  refine g_putRF (pc := 10) G ci_2 (uw_2 G.2.2.2.2.1) (k := 0) (by decide) rfl rfl k8 rfl rfl rfl (fun _ => ⟨rfl, rfl⟩) (q300 G.2.2.2.2.1) e12 dX2_init_10 ?_
  refine g_aload_n (pc := 13) G dX2_init_13 0 rfl ?_
  refine g_bipush (pc := 14) G (v := 8) dX2_init_14 (by decide) ?_
  obtain ⟨a13, e16, h⟩ := lt_e h
  obtain ⟨T14, e17, h⟩ := lt_e h
  obtain ⟨V15, e18, h⟩ := lt_e h
  refine g_newq (pc := 16) G (q242 G.2.2.2.2.1) (q243 G.2.2.2.2.1) (by decide) (t0 := 5) rfl (N := 8) (by decide) (by decide) (Nat.le_of_ble_eq_true rfl) e17 e18 e16 ⟨Nat.le_trans (Nat.le_of_ble_eq_true rfl) hC.1, Nat.le_trans (Nat.le_of_ble_eq_true rfl) hC.2⟩ dX2_init_16 ?_
  have k19 : kd T14 a13 = 15 := by
    rw [← e17, ← e16]
    exact nT_kd _ _ _
  refine g_widen (sl := 20) (Nat.le_of_ble_eq_true rfl) ?_
  obtain ⟨r22, e21, h⟩ := bd_e h
  have k20 : kd T14 this = 2 := by
    obtain ⟨ee, k0⟩ := ck_e e21
    cases ee
    exact k0
  obtain ⟨V23, e24, h⟩ := lt_e h
  refine g_putRF (pc := 19) G ci_2 (uw_2 G.2.2.2.2.1) (k := 1) (by decide) rfl rfl k20 rfl rfl rfl (fun _ => ⟨rfl, rfl⟩) (q301 G.2.2.2.2.1) e24 dX2_init_19 ?_
  refine g_iconst (pc := 22) G (v := 0) dX2_init_22 (by decide) ?_
  refine g_istore_n (L' := [(1, .int 0), (0, rv b (some this))]) (pc := 23) G dX2_init_23 (by decide) rfl ?_
  refine g_iload_n (pc := 24) G dX2_init_24 0 rfl ?_
  refine g_bipush (pc := 25) G (v := 12) dX2_init_25 (by decide) ?_
  refine g_icmp_ge (pc := 27) G 49 dX2_init_27 (by decide) (fun c25 => absurd c25 (by decide)) (fun c25 => ?_)
  refine g_aload_n (pc := 30) G dX2_init_30 1 rfl ?_
  obtain ⟨r26, e27, h⟩ := bd_e h
  obtain ⟨f28, k29⟩ := ck_e e27
  refine g_getR (pc := 31) G ci_2 (uw_2 G.2.2.2.2.1) (k := 0) (by decide) rfl rfl k20 (q300 G.2.2.2.2.1) dX2_init_31 f28 ?_
  refine g_iload_n (pc := 34) G dX2_init_34 0 rfl ?_
  obtain ⟨a30, e33, h⟩ := lt_e h
  obtain ⟨T31, e34, h⟩ := lt_e h
  obtain ⟨V32, e35, h⟩ := lt_e h
  refine g_new (pc := 35) G ci_6 (uw_6 G.2.2.2.2.1) df_6 (q240 G.2.2.2.2.1) (q244 G.2.2.2.2.1) (q65 G.2.2.2.2.1) e34 e35 e33 ⟨Nat.le_trans (Nat.le_of_ble_eq_true rfl) hC.1, Nat.le_trans (Nat.le_of_ble_eq_true rfl) hC.2⟩ dX2_init_35 ?_
  have k36 : kd T31 a30 = 6 := by
    rw [← e34, ← e33]
    exact nT_kd _ _ _
  refine g_widen (sl := 24) (Nat.le_of_ble_eq_true rfl) ?_
  refine g_dup (pc := 38) G dX2_init_38 rfl ?_
  obtain ⟨T37, V38, e39, h⟩ := bd2_e h
  obtain ⟨z40, h⟩ := gd_e h
  refine g_callIN (pc := 39) (As := []) (rest := [rv b (some a30), .int 0, rv b (some r26)]) (st2 := [rv b (some a30), .int 0, rv b (some r26)]) G (c_Si_init l D ca b k36 e39) (mb_Si_init G.2.2.2.2.1) (q246 G.2.2.2.2.1) (q245 G.2.2.2.2.1) rfl rfl rfl (Nat.le_of_ble_eq_true rfl) ⟨Nat.le_trans (Nat.le_of_ble_eq_true rfl) hR.1, Nat.le_trans (Nat.le_of_ble_eq_true rfl) hR.2⟩ ⟨Nat.le_trans (Nat.le_of_ble_eq_true rfl) hC.1, Nat.le_trans (Nat.le_of_ble_eq_true rfl) hC.2⟩ (of_decide_eq_true z40) rfl dX2_init_39 ?_
  refine g_widen (sl := 30) (Nat.le_of_ble_eq_true rfl) ?_
  obtain ⟨r43, e42, h⟩ := bd_e h
  have k41 : kd T37 r26 = 14 := by
    obtain ⟨ee, k0⟩ := ck_e e42
    cases ee
    exact k0
  obtain ⟨r46, e45, h⟩ := bd_e h
  have k44 : kd T37 a30 = 6 := by
    obtain ⟨ee, k0⟩ := ck_e e45
    cases ee
    exact k0
  obtain ⟨b47, h⟩ := gd_e h
  obtain ⟨V48, e49, h⟩ := lt_e h
  refine g_aast (pc := 42) G (t0 := 4) k41 (by decide) rfl ci_6 k44 b47 e49 dX2_init_42 ?_
  refine g_iinc (v := 1) (L' := [(1, .int 1), (0, rv b (some this))]) (pc := 43) G dX2_init_43 0 rfl (by decide) (by decide) rfl ?_
  refine g_goto (pc := 46) G 24 dX2_init_46 (by decide) ?_
  refine g_iload_n (pc := 24) G dX2_init_24 0 rfl ?_
  refine g_bipush (pc := 25) G (v := 12) dX2_init_25 (by decide) ?_
  refine g_icmp_ge (pc := 27) G 49 dX2_init_27 (by decide) (fun c50 => absurd c50 (by decide)) (fun c50 => ?_)
  refine g_aload_n (pc := 30) G dX2_init_30 1 rfl ?_
  obtain ⟨r53, e52, h⟩ := bd_e h
  have k51 : kd T37 this = 2 := by
    obtain ⟨ee, k0⟩ := ck_e e52
    cases ee
    exact k0
  obtain ⟨r54, e55, h⟩ := bd_e h
  obtain ⟨f56, k57⟩ := ck_e e55
  refine g_getR (pc := 31) G ci_2 (uw_2 G.2.2.2.2.1) (k := 0) (by decide) rfl rfl k51 (q300 G.2.2.2.2.1) dX2_init_31 f56 ?_
  refine g_iload_n (pc := 34) G dX2_init_34 0 rfl ?_
  obtain ⟨a58, e61, h⟩ := lt_e h
  obtain ⟨T59, e62, h⟩ := lt_e h
  obtain ⟨V60, e63, h⟩ := lt_e h
  refine g_new (pc := 35) G ci_6 (uw_6 G.2.2.2.2.1) df_6 (q240 G.2.2.2.2.1) (q244 G.2.2.2.2.1) (q65 G.2.2.2.2.1) e62 e63 e61 ⟨Nat.le_trans (Nat.le_of_ble_eq_true rfl) hC.1, Nat.le_trans (Nat.le_of_ble_eq_true rfl) hC.2⟩ dX2_init_35 ?_
  have k64 : kd T59 a58 = 6 := by
    rw [← e62, ← e61]
    exact nT_kd _ _ _
  refine g_widen (sl := 34) (Nat.le_of_ble_eq_true rfl) ?_
  refine g_dup (pc := 38) G dX2_init_38 rfl ?_
  obtain ⟨T65, V66, e67, h⟩ := bd2_e h
  obtain ⟨z68, h⟩ := gd_e h
  refine g_callIN (pc := 39) (As := []) (rest := [rv b (some a58), .int 1, rv b (some r54)]) (st2 := [rv b (some a58), .int 1, rv b (some r54)]) G (c_Si_init l D ca b k64 e67) (mb_Si_init G.2.2.2.2.1) (q246 G.2.2.2.2.1) (q245 G.2.2.2.2.1) rfl rfl rfl (Nat.le_of_ble_eq_true rfl) ⟨Nat.le_trans (Nat.le_of_ble_eq_true rfl) hR.1, Nat.le_trans (Nat.le_of_ble_eq_true rfl) hR.2⟩ ⟨Nat.le_trans (Nat.le_of_ble_eq_true rfl) hC.1, Nat.le_trans (Nat.le_of_ble_eq_true rfl) hC.2⟩ (of_decide_eq_true z68) rfl dX2_init_39 ?_
  refine g_widen (sl := 40) (Nat.le_of_ble_eq_true rfl) ?_
  obtain ⟨r71, e70, h⟩ := bd_e h
  have k69 : kd T65 r54 = 14 := by
    obtain ⟨ee, k0⟩ := ck_e e70
    cases ee
    exact k0
  obtain ⟨r74, e73, h⟩ := bd_e h
  have k72 : kd T65 a58 = 6 := by
    obtain ⟨ee, k0⟩ := ck_e e73
    cases ee
    exact k0
  obtain ⟨b75, h⟩ := gd_e h
  obtain ⟨V76, e77, h⟩ := lt_e h
  refine g_aast (pc := 42) G (t0 := 4) k69 (by decide) rfl ci_6 k72 b75 e77 dX2_init_42 ?_
  refine g_iinc (v := 2) (L' := [(1, .int 2), (0, rv b (some this))]) (pc := 43) G dX2_init_43 0 rfl (by decide) (by decide) rfl ?_
  refine g_goto (pc := 46) G 24 dX2_init_46 (by decide) ?_
  refine g_iload_n (pc := 24) G dX2_init_24 0 rfl ?_
  refine g_bipush (pc := 25) G (v := 12) dX2_init_25 (by decide) ?_
  refine g_icmp_ge (pc := 27) G 49 dX2_init_27 (by decide) (fun c78 => absurd c78 (by decide)) (fun c78 => ?_)
  refine g_aload_n (pc := 30) G dX2_init_30 1 rfl ?_
  obtain ⟨r81, e80, h⟩ := bd_e h
  have k79 : kd T65 this = 2 := by
    obtain ⟨ee, k0⟩ := ck_e e80
    cases ee
    exact k0
  obtain ⟨r82, e83, h⟩ := bd_e h
  obtain ⟨f84, k85⟩ := ck_e e83
  refine g_getR (pc := 31) G ci_2 (uw_2 G.2.2.2.2.1) (k := 0) (by decide) rfl rfl k79 (q300 G.2.2.2.2.1) dX2_init_31 f84 ?_
  refine g_iload_n (pc := 34) G dX2_init_34 0 rfl ?_
  obtain ⟨a86, e89, h⟩ := lt_e h
  obtain ⟨T87, e90, h⟩ := lt_e h
  obtain ⟨V88, e91, h⟩ := lt_e h
  refine g_new (pc := 35) G ci_6 (uw_6 G.2.2.2.2.1) df_6 (q240 G.2.2.2.2.1) (q244 G.2.2.2.2.1) (q65 G.2.2.2.2.1) e90 e91 e89 ⟨Nat.le_trans (Nat.le_of_ble_eq_true rfl) hC.1, Nat.le_trans (Nat.le_of_ble_eq_true rfl) hC.2⟩ dX2_init_35 ?_
  have k92 : kd T87 a86 = 6 := by
    rw [← e90, ← e89]
    exact nT_kd _ _ _
  refine g_widen (sl := 44) (Nat.le_of_ble_eq_true rfl) ?_
  refine g_dup (pc := 38) G dX2_init_38 rfl ?_
  obtain ⟨T93, V94, e95, h⟩ := bd2_e h
  obtain ⟨z96, h⟩ := gd_e h
  refine g_callIN (pc := 39) (As := []) (rest := [rv b (some a86), .int 2, rv b (some r82)]) (st2 := [rv b (some a86), .int 2, rv b (some r82)]) G (c_Si_init l D ca b k92 e95) (mb_Si_init G.2.2.2.2.1) (q246 G.2.2.2.2.1) (q245 G.2.2.2.2.1) rfl rfl rfl (Nat.le_of_ble_eq_true rfl) ⟨Nat.le_trans (Nat.le_of_ble_eq_true rfl) hR.1, Nat.le_trans (Nat.le_of_ble_eq_true rfl) hR.2⟩ ⟨Nat.le_trans (Nat.le_of_ble_eq_true rfl) hC.1, Nat.le_trans (Nat.le_of_ble_eq_true rfl) hC.2⟩ (of_decide_eq_true z96) rfl dX2_init_39 ?_
  refine g_widen (sl := 50) (Nat.le_of_ble_eq_true rfl) ?_
  obtain ⟨r99, e98, h⟩ := bd_e h
  have k97 : kd T93 r82 = 14 := by
    obtain ⟨ee, k0⟩ := ck_e e98
    cases ee
    exact k0
  obtain ⟨r102, e101, h⟩ := bd_e h
  have k100 : kd T93 a86 = 6 := by
    obtain ⟨ee, k0⟩ := ck_e e101
    cases ee
    exact k0
  obtain ⟨b103, h⟩ := gd_e h
  obtain ⟨V104, e105, h⟩ := lt_e h
  refine g_aast (pc := 42) G (t0 := 4) k97 (by decide) rfl ci_6 k100 b103 e105 dX2_init_42 ?_
  refine g_iinc (v := 3) (L' := [(1, .int 3), (0, rv b (some this))]) (pc := 43) G dX2_init_43 0 rfl (by decide) (by decide) rfl ?_
  refine g_goto (pc := 46) G 24 dX2_init_46 (by decide) ?_
  refine g_iload_n (pc := 24) G dX2_init_24 0 rfl ?_
  refine g_bipush (pc := 25) G (v := 12) dX2_init_25 (by decide) ?_
  refine g_icmp_ge (pc := 27) G 49 dX2_init_27 (by decide) (fun c106 => absurd c106 (by decide)) (fun c106 => ?_)
  refine g_aload_n (pc := 30) G dX2_init_30 1 rfl ?_
  obtain ⟨r109, e108, h⟩ := bd_e h
  have k107 : kd T93 this = 2 := by
    obtain ⟨ee, k0⟩ := ck_e e108
    cases ee
    exact k0
  obtain ⟨r110, e111, h⟩ := bd_e h
  obtain ⟨f112, k113⟩ := ck_e e111
  refine g_getR (pc := 31) G ci_2 (uw_2 G.2.2.2.2.1) (k := 0) (by decide) rfl rfl k107 (q300 G.2.2.2.2.1) dX2_init_31 f112 ?_
  refine g_iload_n (pc := 34) G dX2_init_34 0 rfl ?_
  obtain ⟨a114, e117, h⟩ := lt_e h
  obtain ⟨T115, e118, h⟩ := lt_e h
  obtain ⟨V116, e119, h⟩ := lt_e h
  refine g_new (pc := 35) G ci_6 (uw_6 G.2.2.2.2.1) df_6 (q240 G.2.2.2.2.1) (q244 G.2.2.2.2.1) (q65 G.2.2.2.2.1) e118 e119 e117 ⟨Nat.le_trans (Nat.le_of_ble_eq_true rfl) hC.1, Nat.le_trans (Nat.le_of_ble_eq_true rfl) hC.2⟩ dX2_init_35 ?_
  have k120 : kd T115 a114 = 6 := by
    rw [← e118, ← e117]
    exact nT_kd _ _ _
  refine g_widen (sl := 54) (Nat.le_of_ble_eq_true rfl) ?_
  refine g_dup (pc := 38) G dX2_init_38 rfl ?_
  obtain ⟨T121, V122, e123, h⟩ := bd2_e h
  obtain ⟨z124, h⟩ := gd_e h
  refine g_callIN (pc := 39) (As := []) (rest := [rv b (some a114), .int 3, rv b (some r110)]) (st2 := [rv b (some a114), .int 3, rv b (some r110)]) G (c_Si_init l D ca b k120 e123) (mb_Si_init G.2.2.2.2.1) (q246 G.2.2.2.2.1) (q245 G.2.2.2.2.1) rfl rfl rfl (Nat.le_of_ble_eq_true rfl) ⟨Nat.le_trans (Nat.le_of_ble_eq_true rfl) hR.1, Nat.le_trans (Nat.le_of_ble_eq_true rfl) hR.2⟩ ⟨Nat.le_trans (Nat.le_of_ble_eq_true rfl) hC.1, Nat.le_trans (Nat.le_of_ble_eq_true rfl) hC.2⟩ (of_decide_eq_true z124) rfl dX2_init_39 ?_
  refine g_widen (sl := 60) (Nat.le_of_ble_eq_true rfl) ?_
  obtain ⟨r127, e126, h⟩ := bd_e h
  have k125 : kd T121 r110 = 14 := by
    obtain ⟨ee, k0⟩ := ck_e e126
    cases ee
    exact k0
  obtain ⟨r130, e129, h⟩ := bd_e h
  have k128 : kd T121 a114 = 6 := by
    obtain ⟨ee, k0⟩ := ck_e e129
    cases ee
    exact k0
  obtain ⟨b131, h⟩ := gd_e h
  obtain ⟨V132, e133, h⟩ := lt_e h
  refine g_aast (pc := 42) G (t0 := 4) k125 (by decide) rfl ci_6 k128 b131 e133 dX2_init_42 ?_
  refine g_iinc (v := 4) (L' := [(1, .int 4), (0, rv b (some this))]) (pc := 43) G dX2_init_43 0 rfl (by decide) (by decide) rfl ?_
  refine g_goto (pc := 46) G 24 dX2_init_46 (by decide) ?_
  refine g_iload_n (pc := 24) G dX2_init_24 0 rfl ?_
  refine g_bipush (pc := 25) G (v := 12) dX2_init_25 (by decide) ?_
  refine g_icmp_ge (pc := 27) G 49 dX2_init_27 (by decide) (fun c134 => absurd c134 (by decide)) (fun c134 => ?_)
  refine g_aload_n (pc := 30) G dX2_init_30 1 rfl ?_
  obtain ⟨r137, e136, h⟩ := bd_e h
  have k135 : kd T121 this = 2 := by
    obtain ⟨ee, k0⟩ := ck_e e136
    cases ee
    exact k0
  obtain ⟨r138, e139, h⟩ := bd_e h
  obtain ⟨f140, k141⟩ := ck_e e139
  refine g_getR (pc := 31) G ci_2 (uw_2 G.2.2.2.2.1) (k := 0) (by decide) rfl rfl k135 (q300 G.2.2.2.2.1) dX2_init_31 f140 ?_
  refine g_iload_n (pc := 34) G dX2_init_34 0 rfl ?_
  obtain ⟨a142, e145, h⟩ := lt_e h
  obtain ⟨T143, e146, h⟩ := lt_e h
  obtain ⟨V144, e147, h⟩ := lt_e h
  refine g_new (pc := 35) G ci_6 (uw_6 G.2.2.2.2.1) df_6 (q240 G.2.2.2.2.1) (q244 G.2.2.2.2.1) (q65 G.2.2.2.2.1) e146 e147 e145 ⟨Nat.le_trans (Nat.le_of_ble_eq_true rfl) hC.1, Nat.le_trans (Nat.le_of_ble_eq_true rfl) hC.2⟩ dX2_init_35 ?_
  have k148 : kd T143 a142 = 6 := by
    rw [← e146, ← e145]
    exact nT_kd _ _ _
  refine g_widen (sl := 64) (Nat.le_of_ble_eq_true rfl) ?_
  refine g_dup (pc := 38) G dX2_init_38 rfl ?_
  obtain ⟨T149, V150, e151, h⟩ := bd2_e h
  obtain ⟨z152, h⟩ := gd_e h
  refine g_callIN (pc := 39) (As := []) (rest := [rv b (some a142), .int 4, rv b (some r138)]) (st2 := [rv b (some a142), .int 4, rv b (some r138)]) G (c_Si_init l D ca b k148 e151) (mb_Si_init G.2.2.2.2.1) (q246 G.2.2.2.2.1) (q245 G.2.2.2.2.1) rfl rfl rfl (Nat.le_of_ble_eq_true rfl) ⟨Nat.le_trans (Nat.le_of_ble_eq_true rfl) hR.1, Nat.le_trans (Nat.le_of_ble_eq_true rfl) hR.2⟩ ⟨Nat.le_trans (Nat.le_of_ble_eq_true rfl) hC.1, Nat.le_trans (Nat.le_of_ble_eq_true rfl) hC.2⟩ (of_decide_eq_true z152) rfl dX2_init_39 ?_
  refine g_widen (sl := 70) (Nat.le_of_ble_eq_true rfl) ?_
  obtain ⟨r155, e154, h⟩ := bd_e h
  have k153 : kd T149 r138 = 14 := by
    obtain ⟨ee, k0⟩ := ck_e e154
    cases ee
    exact k0
  obtain ⟨r158, e157, h⟩ := bd_e h
  have k156 : kd T149 a142 = 6 := by
    obtain ⟨ee, k0⟩ := ck_e e157
    cases ee
    exact k0
  obtain ⟨b159, h⟩ := gd_e h
  obtain ⟨V160, e161, h⟩ := lt_e h
  refine g_aast (pc := 42) G (t0 := 4) k153 (by decide) rfl ci_6 k156 b159 e161 dX2_init_42 ?_
  refine g_iinc (v := 5) (L' := [(1, .int 5), (0, rv b (some this))]) (pc := 43) G dX2_init_43 0 rfl (by decide) (by decide) rfl ?_
  refine g_goto (pc := 46) G 24 dX2_init_46 (by decide) ?_
  refine g_iload_n (pc := 24) G dX2_init_24 0 rfl ?_
  refine g_bipush (pc := 25) G (v := 12) dX2_init_25 (by decide) ?_
  refine g_icmp_ge (pc := 27) G 49 dX2_init_27 (by decide) (fun c162 => absurd c162 (by decide)) (fun c162 => ?_)
  refine g_aload_n (pc := 30) G dX2_init_30 1 rfl ?_
  obtain ⟨r165, e164, h⟩ := bd_e h
  have k163 : kd T149 this = 2 := by
    obtain ⟨ee, k0⟩ := ck_e e164
    cases ee
    exact k0
  obtain ⟨r166, e167, h⟩ := bd_e h
  obtain ⟨f168, k169⟩ := ck_e e167
  refine g_getR (pc := 31) G ci_2 (uw_2 G.2.2.2.2.1) (k := 0) (by decide) rfl rfl k163 (q300 G.2.2.2.2.1) dX2_init_31 f168 ?_
  refine g_iload_n (pc := 34) G dX2_init_34 0 rfl ?_
  obtain ⟨a170, e173, h⟩ := lt_e h
  obtain ⟨T171, e174, h⟩ := lt_e h
  obtain ⟨V172, e175, h⟩ := lt_e h
  refine g_new (pc := 35) G ci_6 (uw_6 G.2.2.2.2.1) df_6 (q240 G.2.2.2.2.1) (q244 G.2.2.2.2.1) (q65 G.2.2.2.2.1) e174 e175 e173 ⟨Nat.le_trans (Nat.le_of_ble_eq_true rfl) hC.1, Nat.le_trans (Nat.le_of_ble_eq_true rfl) hC.2⟩ dX2_init_35 ?_
  have k176 : kd T171 a170 = 6 := by
    rw [← e174, ← e173]
    exact nT_kd _ _ _
  refine g_widen (sl := 74) (Nat.le_of_ble_eq_true rfl) ?_
  refine g_dup (pc := 38) G dX2_init_38 rfl ?_
  obtain ⟨T177, V178, e179, h⟩ := bd2_e h
  obtain ⟨z180, h⟩ := gd_e h
  refine g_callIN (pc := 39) (As := []) (rest := [rv b (some a170), .int 5, rv b (some r166)]) (st2 := [rv b (some a170), .int 5, rv b (some r166)]) G (c_Si_init l D ca b k176 e179) (mb_Si_init G.2.2.2.2.1) (q246 G.2.2.2.2.1) (q245 G.2.2.2.2.1) rfl rfl rfl (Nat.le_of_ble_eq_true rfl) ⟨Nat.le_trans (Nat.le_of_ble_eq_true rfl) hR.1, Nat.le_trans (Nat.le_of_ble_eq_true rfl) hR.2⟩ ⟨Nat.le_trans (Nat.le_of_ble_eq_true rfl) hC.1, Nat.le_trans (Nat.le_of_ble_eq_true rfl) hC.2⟩ (of_decide_eq_true z180) rfl dX2_init_39 ?_
  refine g_widen (sl := 80) (Nat.le_of_ble_eq_true rfl) ?_
  obtain ⟨r183, e182, h⟩ := bd_e h
  have k181 : kd T177 r166 = 14 := by
    obtain ⟨ee, k0⟩ := ck_e e182
    cases ee
    exact k0
  obtain ⟨r186, e185, h⟩ := bd_e h
  have k184 : kd T177 a170 = 6 := by
    obtain ⟨ee, k0⟩ := ck_e e185
    cases ee
    exact k0
  obtain ⟨b187, h⟩ := gd_e h
  obtain ⟨V188, e189, h⟩ := lt_e h
  refine g_aast (pc := 42) G (t0 := 4) k181 (by decide) rfl ci_6 k184 b187 e189 dX2_init_42 ?_
  refine g_iinc (v := 6) (L' := [(1, .int 6), (0, rv b (some this))]) (pc := 43) G dX2_init_43 0 rfl (by decide) (by decide) rfl ?_
  refine g_goto (pc := 46) G 24 dX2_init_46 (by decide) ?_
  refine g_iload_n (pc := 24) G dX2_init_24 0 rfl ?_
  refine g_bipush (pc := 25) G (v := 12) dX2_init_25 (by decide) ?_
  refine g_icmp_ge (pc := 27) G 49 dX2_init_27 (by decide) (fun c190 => absurd c190 (by decide)) (fun c190 => ?_)
  refine g_aload_n (pc := 30) G dX2_init_30 1 rfl ?_
  obtain ⟨r193, e192, h⟩ := bd_e h
  have k191 : kd T177 this = 2 := by
    obtain ⟨ee, k0⟩ := ck_e e192
    cases ee
    exact k0
  obtain ⟨r194, e195, h⟩ := bd_e h
  obtain ⟨f196, k197⟩ := ck_e e195
  refine g_getR (pc := 31) G ci_2 (uw_2 G.2.2.2.2.1) (k := 0) (by decide) rfl rfl k191 (q300 G.2.2.2.2.1) dX2_init_31 f196 ?_
  refine g_iload_n (pc := 34) G dX2_init_34 0 rfl ?_
  obtain ⟨a198, e201, h⟩ := lt_e h
  obtain ⟨T199, e202, h⟩ := lt_e h
  obtain ⟨V200, e203, h⟩ := lt_e h
  refine g_new (pc := 35) G ci_6 (uw_6 G.2.2.2.2.1) df_6 (q240 G.2.2.2.2.1) (q244 G.2.2.2.2.1) (q65 G.2.2.2.2.1) e202 e203 e201 ⟨Nat.le_trans (Nat.le_of_ble_eq_true rfl) hC.1, Nat.le_trans (Nat.le_of_ble_eq_true rfl) hC.2⟩ dX2_init_35 ?_
  have k204 : kd T199 a198 = 6 := by
    rw [← e202, ← e201]
    exact nT_kd _ _ _
  refine g_widen (sl := 84) (Nat.le_of_ble_eq_true rfl) ?_
  refine g_dup (pc := 38) G dX2_init_38 rfl ?_
  obtain ⟨T205, V206, e207, h⟩ := bd2_e h
  obtain ⟨z208, h⟩ := gd_e h
  refine g_callIN (pc := 39) (As := []) (rest := [rv b (some a198), .int 6, rv b (some r194)]) (st2 := [rv b (some a198), .int 6, rv b (some r194)]) G (c_Si_init l D ca b k204 e207) (mb_Si_init G.2.2.2.2.1) (q246 G.2.2.2.2.1) (q245 G.2.2.2.2.1) rfl rfl rfl (Nat.le_of_ble_eq_true rfl) ⟨Nat.le_trans (Nat.le_of_ble_eq_true rfl) hR.1, Nat.le_trans (Nat.le_of_ble_eq_true rfl) hR.2⟩ ⟨Nat.le_trans (Nat.le_of_ble_eq_true rfl) hC.1, Nat.le_trans (Nat.le_of_ble_eq_true rfl) hC.2⟩ (of_decide_eq_true z208) rfl dX2_init_39 ?_
  refine g_widen (sl := 90) (Nat.le_of_ble_eq_true rfl) ?_
  obtain ⟨r211, e210, h⟩ := bd_e h
  have k209 : kd T205 r194 = 14 := by
    obtain ⟨ee, k0⟩ := ck_e e210
    cases ee
    exact k0
  obtain ⟨r214, e213, h⟩ := bd_e h
  have k212 : kd T205 a198 = 6 := by
    obtain ⟨ee, k0⟩ := ck_e e213
    cases ee
    exact k0
  obtain ⟨b215, h⟩ := gd_e h
  obtain ⟨V216, e217, h⟩ := lt_e h
  refine g_aast (pc := 42) G (t0 := 4) k209 (by decide) rfl ci_6 k212 b215 e217 dX2_init_42 ?_
  refine g_iinc (v := 7) (L' := [(1, .int 7), (0, rv b (some this))]) (pc := 43) G dX2_init_43 0 rfl (by decide) (by decide) rfl ?_
  refine g_goto (pc := 46) G 24 dX2_init_46 (by decide) ?_
  refine g_iload_n (pc := 24) G dX2_init_24 0 rfl ?_
  refine g_bipush (pc := 25) G (v := 12) dX2_init_25 (by decide) ?_
  refine g_icmp_ge (pc := 27) G 49 dX2_init_27 (by decide) (fun c218 => absurd c218 (by decide)) (fun c218 => ?_)
  refine g_aload_n (pc := 30) G dX2_init_30 1 rfl ?_
  obtain ⟨r221, e220, h⟩ := bd_e h
  have k219 : kd T205 this = 2 := by
    obtain ⟨ee, k0⟩ := ck_e e220
    cases ee
    exact k0
  obtain ⟨r222, e223, h⟩ := bd_e h
  obtain ⟨f224, k225⟩ := ck_e e223
  refine g_getR (pc := 31) G ci_2 (uw_2 G.2.2.2.2.1) (k := 0) (by decide) rfl rfl k219 (q300 G.2.2.2.2.1) dX2_init_31 f224 ?_
  refine g_iload_n (pc := 34) G dX2_init_34 0 rfl ?_
  obtain ⟨a226, e229, h⟩ := lt_e h
  obtain ⟨T227, e230, h⟩ := lt_e h
  obtain ⟨V228, e231, h⟩ := lt_e h
  refine g_new (pc := 35) G ci_6 (uw_6 G.2.2.2.2.1) df_6 (q240 G.2.2.2.2.1) (q244 G.2.2.2.2.1) (q65 G.2.2.2.2.1) e230 e231 e229 ⟨Nat.le_trans (Nat.le_of_ble_eq_true rfl) hC.1, Nat.le_trans (Nat.le_of_ble_eq_true rfl) hC.2⟩ dX2_init_35 ?_
  have k232 : kd T227 a226 = 6 := by
    rw [← e230, ← e229]
    exact nT_kd _ _ _
  refine g_widen (sl := 94) (Nat.le_of_ble_eq_true rfl) ?_
  refine g_dup (pc := 38) G dX2_init_38 rfl ?_
  obtain ⟨T233, V234, e235, h⟩ := bd2_e h
  obtain ⟨z236, h⟩ := gd_e h
  refine g_callIN (pc := 39) (As := []) (rest := [rv b (some a226), .int 7, rv b (some r222)]) (st2 := [rv b (some a226), .int 7, rv b (some r222)]) G (c_Si_init l D ca b k232 e235) (mb_Si_init G.2.2.2.2.1) (q246 G.2.2.2.2.1) (q245 G.2.2.2.2.1) rfl rfl rfl (Nat.le_of_ble_eq_true rfl) ⟨Nat.le_trans (Nat.le_of_ble_eq_true rfl) hR.1, Nat.le_trans (Nat.le_of_ble_eq_true rfl) hR.2⟩ ⟨Nat.le_trans (Nat.le_of_ble_eq_true rfl) hC.1, Nat.le_trans (Nat.le_of_ble_eq_true rfl) hC.2⟩ (of_decide_eq_true z236) rfl dX2_init_39 ?_
  refine g_widen (sl := 100) (Nat.le_of_ble_eq_true rfl) ?_
  obtain ⟨r239, e238, h⟩ := bd_e h
  have k237 : kd T233 r222 = 14 := by
    obtain ⟨ee, k0⟩ := ck_e e238
    cases ee
    exact k0
  obtain ⟨r242, e241, h⟩ := bd_e h
  have k240 : kd T233 a226 = 6 := by
    obtain ⟨ee, k0⟩ := ck_e e241
    cases ee
    exact k0
  obtain ⟨b243, h⟩ := gd_e h
  obtain ⟨V244, e245, h⟩ := lt_e h
  refine g_aast (pc := 42) G (t0 := 4) k237 (by decide) rfl ci_6 k240 b243 e245 dX2_init_42 ?_
  refine g_iinc (v := 8) (L' := [(1, .int 8), (0, rv b (some this))]) (pc := 43) G dX2_init_43 0 rfl (by decide) (by decide) rfl ?_
  refine g_goto (pc := 46) G 24 dX2_init_46 (by decide) ?_
  refine g_iload_n (pc := 24) G dX2_init_24 0 rfl ?_
  refine g_bipush (pc := 25) G (v := 12) dX2_init_25 (by decide) ?_
  refine g_icmp_ge (pc := 27) G 49 dX2_init_27 (by decide) (fun c246 => absurd c246 (by decide)) (fun c246 => ?_)
  refine g_aload_n (pc := 30) G dX2_init_30 1 rfl ?_
  obtain ⟨r249, e248, h⟩ := bd_e h
  have k247 : kd T233 this = 2 := by
    obtain ⟨ee, k0⟩ := ck_e e248
    cases ee
    exact k0
  obtain ⟨r250, e251, h⟩ := bd_e h
  obtain ⟨f252, k253⟩ := ck_e e251
  refine g_getR (pc := 31) G ci_2 (uw_2 G.2.2.2.2.1) (k := 0) (by decide) rfl rfl k247 (q300 G.2.2.2.2.1) dX2_init_31 f252 ?_
  refine g_iload_n (pc := 34) G dX2_init_34 0 rfl ?_
  obtain ⟨a254, e257, h⟩ := lt_e h
  obtain ⟨T255, e258, h⟩ := lt_e h
  obtain ⟨V256, e259, h⟩ := lt_e h
  refine g_new (pc := 35) G ci_6 (uw_6 G.2.2.2.2.1) df_6 (q240 G.2.2.2.2.1) (q244 G.2.2.2.2.1) (q65 G.2.2.2.2.1) e258 e259 e257 ⟨Nat.le_trans (Nat.le_of_ble_eq_true rfl) hC.1, Nat.le_trans (Nat.le_of_ble_eq_true rfl) hC.2⟩ dX2_init_35 ?_
  have k260 : kd T255 a254 = 6 := by
    rw [← e258, ← e257]
    exact nT_kd _ _ _
  refine g_widen (sl := 104) (Nat.le_of_ble_eq_true rfl) ?_
  refine g_dup (pc := 38) G dX2_init_38 rfl ?_
  obtain ⟨T261, V262, e263, h⟩ := bd2_e h
  obtain ⟨z264, h⟩ := gd_e h
  refine g_callIN (pc := 39) (As := []) (rest := [rv b (some a254), .int 8, rv b (some r250)]) (st2 := [rv b (some a254), .int 8, rv b (some r250)]) G (c_Si_init l D ca b k260 e263) (mb_Si_init G.2.2.2.2.1) (q246 G.2.2.2.2.1) (q245 G.2.2.2.2.1) rfl rfl rfl (Nat.le_of_ble_eq_true rfl) ⟨Nat.le_trans (Nat.le_of_ble_eq_true rfl) hR.1, Nat.le_trans (Nat.le_of_ble_eq_true rfl) hR.2⟩ ⟨Nat.le_trans (Nat.le_of_ble_eq_true rfl) hC.1, Nat.le_trans (Nat.le_of_ble_eq_true rfl) hC.2⟩ (of_decide_eq_true z264) rfl dX2_init_39 ?_
  refine g_widen (sl := 110) (Nat.le_of_ble_eq_true rfl) ?_
  obtain ⟨r267, e266, h⟩ := bd_e h
  have k265 : kd T261 r250 = 14 := by
    obtain ⟨ee, k0⟩ := ck_e e266
    cases ee
    exact k0
  obtain ⟨r270, e269, h⟩ := bd_e h
  have k268 : kd T261 a254 = 6 := by
    obtain ⟨ee, k0⟩ := ck_e e269
    cases ee
    exact k0
  obtain ⟨b271, h⟩ := gd_e h
  obtain ⟨V272, e273, h⟩ := lt_e h
  refine g_aast (pc := 42) G (t0 := 4) k265 (by decide) rfl ci_6 k268 b271 e273 dX2_init_42 ?_
  refine g_iinc (v := 9) (L' := [(1, .int 9), (0, rv b (some this))]) (pc := 43) G dX2_init_43 0 rfl (by decide) (by decide) rfl ?_
  refine g_goto (pc := 46) G 24 dX2_init_46 (by decide) ?_
  refine g_iload_n (pc := 24) G dX2_init_24 0 rfl ?_
  refine g_bipush (pc := 25) G (v := 12) dX2_init_25 (by decide) ?_
  refine g_icmp_ge (pc := 27) G 49 dX2_init_27 (by decide) (fun c274 => absurd c274 (by decide)) (fun c274 => ?_)
  refine g_aload_n (pc := 30) G dX2_init_30 1 rfl ?_
  obtain ⟨r277, e276, h⟩ := bd_e h
  have k275 : kd T261 this = 2 := by
    obtain ⟨ee, k0⟩ := ck_e e276
    cases ee
    exact k0
  obtain ⟨r278, e279, h⟩ := bd_e h
  obtain ⟨f280, k281⟩ := ck_e e279
  refine g_getR (pc := 31) G ci_2 (uw_2 G.2.2.2.2.1) (k := 0) (by decide) rfl rfl k275 (q300 G.2.2.2.2.1) dX2_init_31 f280 ?_
  refine g_iload_n (pc := 34) G dX2_init_34 0 rfl ?_
  obtain ⟨a282, e285, h⟩ := lt_e h
  obtain ⟨T283, e286, h⟩ := lt_e h
  obtain ⟨V284, e287, h⟩ := lt_e h
  refine g_new (pc := 35) G ci_6 (uw_6 G.2.2.2.2.1) df_6 (q240 G.2.2.2.2.1) (q244 G.2.2.2.2.1) (q65 G.2.2.2.2.1) e286 e287 e285 ⟨Nat.le_trans (Nat.le_of_ble_eq_true rfl) hC.1, Nat.le_trans (Nat.le_of_ble_eq_true rfl) hC.2⟩ dX2_init_35 ?_
  have k288 : kd T283 a282 = 6 := by
    rw [← e286, ← e285]
    exact nT_kd _ _ _
  refine g_widen (sl := 114) (Nat.le_of_ble_eq_true rfl) ?_
  refine g_dup (pc := 38) G dX2_init_38 rfl ?_
  obtain ⟨T289, V290, e291, h⟩ := bd2_e h
  obtain ⟨z292, h⟩ := gd_e h
  refine g_callIN (pc := 39) (As := []) (rest := [rv b (some a282), .int 9, rv b (some r278)]) (st2 := [rv b (some a282), .int 9, rv b (some r278)]) G (c_Si_init l D ca b k288 e291) (mb_Si_init G.2.2.2.2.1) (q246 G.2.2.2.2.1) (q245 G.2.2.2.2.1) rfl rfl rfl (Nat.le_of_ble_eq_true rfl) ⟨Nat.le_trans (Nat.le_of_ble_eq_true rfl) hR.1, Nat.le_trans (Nat.le_of_ble_eq_true rfl) hR.2⟩ ⟨Nat.le_trans (Nat.le_of_ble_eq_true rfl) hC.1, Nat.le_trans (Nat.le_of_ble_eq_true rfl) hC.2⟩ (of_decide_eq_true z292) rfl dX2_init_39 ?_
  refine g_widen (sl := 120) (Nat.le_of_ble_eq_true rfl) ?_
  obtain ⟨r295, e294, h⟩ := bd_e h
  have k293 : kd T289 r278 = 14 := by
    obtain ⟨ee, k0⟩ := ck_e e294
    cases ee
    exact k0
  obtain ⟨r298, e297, h⟩ := bd_e h
  have k296 : kd T289 a282 = 6 := by
    obtain ⟨ee, k0⟩ := ck_e e297
    cases ee
    exact k0
  obtain ⟨b299, h⟩ := gd_e h
  obtain ⟨V300, e301, h⟩ := lt_e h
  refine g_aast (pc := 42) G (t0 := 4) k293 (by decide) rfl ci_6 k296 b299 e301 dX2_init_42 ?_
  refine g_iinc (v := 10) (L' := [(1, .int 10), (0, rv b (some this))]) (pc := 43) G dX2_init_43 0 rfl (by decide) (by decide) rfl ?_
  refine g_goto (pc := 46) G 24 dX2_init_46 (by decide) ?_
  refine g_iload_n (pc := 24) G dX2_init_24 0 rfl ?_
  refine g_bipush (pc := 25) G (v := 12) dX2_init_25 (by decide) ?_
  refine g_icmp_ge (pc := 27) G 49 dX2_init_27 (by decide) (fun c302 => absurd c302 (by decide)) (fun c302 => ?_)
  refine g_aload_n (pc := 30) G dX2_init_30 1 rfl ?_
  obtain ⟨r305, e304, h⟩ := bd_e h
  have k303 : kd T289 this = 2 := by
    obtain ⟨ee, k0⟩ := ck_e e304
    cases ee
    exact k0
  obtain ⟨r306, e307, h⟩ := bd_e h
  obtain ⟨f308, k309⟩ := ck_e e307
  refine g_getR (pc := 31) G ci_2 (uw_2 G.2.2.2.2.1) (k := 0) (by decide) rfl rfl k303 (q300 G.2.2.2.2.1) dX2_init_31 f308 ?_
  refine g_iload_n (pc := 34) G dX2_init_34 0 rfl ?_
  obtain ⟨a310, e313, h⟩ := lt_e h
  obtain ⟨T311, e314, h⟩ := lt_e h
  obtain ⟨V312, e315, h⟩ := lt_e h
  refine g_new (pc := 35) G ci_6 (uw_6 G.2.2.2.2.1) df_6 (q240 G.2.2.2.2.1) (q244 G.2.2.2.2.1) (q65 G.2.2.2.2.1) e314 e315 e313 ⟨Nat.le_trans (Nat.le_of_ble_eq_true rfl) hC.1, Nat.le_trans (Nat.le_of_ble_eq_true rfl) hC.2⟩ dX2_init_35 ?_
  have k316 : kd T311 a310 = 6 := by
    rw [← e314, ← e313]
    exact nT_kd _ _ _
  refine g_widen (sl := 124) (Nat.le_of_ble_eq_true rfl) ?_
  refine g_dup (pc := 38) G dX2_init_38 rfl ?_
  obtain ⟨T317, V318, e319, h⟩ := bd2_e h
  obtain ⟨z320, h⟩ := gd_e h
  refine g_callIN (pc := 39) (As := []) (rest := [rv b (some a310), .int 10, rv b (some r306)]) (st2 := [rv b (some a310), .int 10, rv b (some r306)]) G (c_Si_init l D ca b k316 e319) (mb_Si_init G.2.2.2.2.1) (q246 G.2.2.2.2.1) (q245 G.2.2.2.2.1) rfl rfl rfl (Nat.le_of_ble_eq_true rfl) ⟨Nat.le_trans (Nat.le_of_ble_eq_true rfl) hR.1, Nat.le_trans (Nat.le_of_ble_eq_true rfl) hR.2⟩ ⟨Nat.le_trans (Nat.le_of_ble_eq_true rfl) hC.1, Nat.le_trans (Nat.le_of_ble_eq_true rfl) hC.2⟩ (of_decide_eq_true z320) rfl dX2_init_39 ?_
  refine g_widen (sl := 130) (Nat.le_of_ble_eq_true rfl) ?_
  obtain ⟨r323, e322, h⟩ := bd_e h
  have k321 : kd T317 r306 = 14 := by
    obtain ⟨ee, k0⟩ := ck_e e322
    cases ee
    exact k0
  obtain ⟨r326, e325, h⟩ := bd_e h
  have k324 : kd T317 a310 = 6 := by
    obtain ⟨ee, k0⟩ := ck_e e325
    cases ee
    exact k0
  obtain ⟨b327, h⟩ := gd_e h
  obtain ⟨V328, e329, h⟩ := lt_e h
  refine g_aast (pc := 42) G (t0 := 4) k321 (by decide) rfl ci_6 k324 b327 e329 dX2_init_42 ?_
  refine g_iinc (v := 11) (L' := [(1, .int 11), (0, rv b (some this))]) (pc := 43) G dX2_init_43 0 rfl (by decide) (by decide) rfl ?_
  refine g_goto (pc := 46) G 24 dX2_init_46 (by decide) ?_
  refine g_iload_n (pc := 24) G dX2_init_24 0 rfl ?_
  refine g_bipush (pc := 25) G (v := 12) dX2_init_25 (by decide) ?_
  refine g_icmp_ge (pc := 27) G 49 dX2_init_27 (by decide) (fun c330 => absurd c330 (by decide)) (fun c330 => ?_)
  refine g_aload_n (pc := 30) G dX2_init_30 1 rfl ?_
  obtain ⟨r333, e332, h⟩ := bd_e h
  have k331 : kd T317 this = 2 := by
    obtain ⟨ee, k0⟩ := ck_e e332
    cases ee
    exact k0
  obtain ⟨r334, e335, h⟩ := bd_e h
  obtain ⟨f336, k337⟩ := ck_e e335
  refine g_getR (pc := 31) G ci_2 (uw_2 G.2.2.2.2.1) (k := 0) (by decide) rfl rfl k331 (q300 G.2.2.2.2.1) dX2_init_31 f336 ?_
  refine g_iload_n (pc := 34) G dX2_init_34 0 rfl ?_
  obtain ⟨a338, e341, h⟩ := lt_e h
  obtain ⟨T339, e342, h⟩ := lt_e h
  obtain ⟨V340, e343, h⟩ := lt_e h
  refine g_new (pc := 35) G ci_6 (uw_6 G.2.2.2.2.1) df_6 (q240 G.2.2.2.2.1) (q244 G.2.2.2.2.1) (q65 G.2.2.2.2.1) e342 e343 e341 ⟨Nat.le_trans (Nat.le_of_ble_eq_true rfl) hC.1, Nat.le_trans (Nat.le_of_ble_eq_true rfl) hC.2⟩ dX2_init_35 ?_
  have k344 : kd T339 a338 = 6 := by
    rw [← e342, ← e341]
    exact nT_kd _ _ _
  refine g_widen (sl := 134) (Nat.le_of_ble_eq_true rfl) ?_
  refine g_dup (pc := 38) G dX2_init_38 rfl ?_
  obtain ⟨T345, V346, e347, h⟩ := bd2_e h
  obtain ⟨z348, h⟩ := gd_e h
  refine g_callIN (pc := 39) (As := []) (rest := [rv b (some a338), .int 11, rv b (some r334)]) (st2 := [rv b (some a338), .int 11, rv b (some r334)]) G (c_Si_init l D ca b k344 e347) (mb_Si_init G.2.2.2.2.1) (q246 G.2.2.2.2.1) (q245 G.2.2.2.2.1) rfl rfl rfl (Nat.le_of_ble_eq_true rfl) ⟨Nat.le_trans (Nat.le_of_ble_eq_true rfl) hR.1, Nat.le_trans (Nat.le_of_ble_eq_true rfl) hR.2⟩ ⟨Nat.le_trans (Nat.le_of_ble_eq_true rfl) hC.1, Nat.le_trans (Nat.le_of_ble_eq_true rfl) hC.2⟩ (of_decide_eq_true z348) rfl dX2_init_39 ?_
  refine g_widen (sl := 140) (Nat.le_of_ble_eq_true rfl) ?_
  obtain ⟨r351, e350, h⟩ := bd_e h
  have k349 : kd T345 r334 = 14 := by
    obtain ⟨ee, k0⟩ := ck_e e350
    cases ee
    exact k0
  obtain ⟨r354, e353, h⟩ := bd_e h
  have k352 : kd T345 a338 = 6 := by
    obtain ⟨ee, k0⟩ := ck_e e353
    cases ee
    exact k0
  obtain ⟨b355, h⟩ := gd_e h
  obtain ⟨V356, e357, h⟩ := lt_e h
  refine g_aast (pc := 42) G (t0 := 4) k349 (by decide) rfl ci_6 k352 b355 e357 dX2_init_42 ?_
  refine g_iinc (v := 12) (L' := [(1, .int 12), (0, rv b (some this))]) (pc := 43) G dX2_init_43 0 rfl (by decide) (by decide) rfl ?_
  refine g_goto (pc := 46) G 24 dX2_init_46 (by decide) ?_
  refine g_iload_n (pc := 24) G dX2_init_24 0 rfl ?_
  refine g_bipush (pc := 25) G (v := 12) dX2_init_25 (by decide) ?_
  refine g_icmp_ge (pc := 27) G 49 dX2_init_27 (by decide) (fun c358 => ?_) (fun c358 => absurd (by decide) c358)
  refine g_iconst (pc := 49) G (v := 0) dX2_init_49 (by decide) ?_
  refine g_istore_n (L' := [(1, .int 0), (0, rv b (some this))]) (pc := 50) G dX2_init_50 (by decide) rfl ?_
  refine g_iload_n (pc := 51) G dX2_init_51 0 rfl ?_
  refine g_bipush (pc := 52) G (v := 8) dX2_init_52 (by decide) ?_
  refine g_icmp_ge (pc := 54) G 76 dX2_init_54 (by decide) (fun c359 => absurd c359 (by decide)) (fun c359 => ?_)
  refine g_aload_n (pc := 57) G dX2_init_57 1 rfl ?_
  obtain ⟨r362, e361, h⟩ := bd_e h
  have k360 : kd T345 this = 2 := by
    obtain ⟨ee, k0⟩ := ck_e e361
    cases ee
    exact k0
  obtain ⟨r363, e364, h⟩ := bd_e h
  obtain ⟨f365, k366⟩ := ck_e e364
  refine g_getR (pc := 58) G ci_2 (uw_2 G.2.2.2.2.1) (k := 1) (by decide) rfl rfl k360 (q301 G.2.2.2.2.1) dX2_init_58 f365 ?_
  refine g_iload_n (pc := 61) G dX2_init_61 0 rfl ?_
  obtain ⟨a367, e370, h⟩ := lt_e h
  obtain ⟨T368, e371, h⟩ := lt_e h
  obtain ⟨V369, e372, h⟩ := lt_e h
  refine g_new (pc := 62) G ci_7 (uw_7 G.2.2.2.2.1) df_7 (q242 G.2.2.2.2.1) (q279 G.2.2.2.2.1) (q66 G.2.2.2.2.1) e371 e372 e370 ⟨Nat.le_trans (Nat.le_of_ble_eq_true rfl) hC.1, Nat.le_trans (Nat.le_of_ble_eq_true rfl) hC.2⟩ dX2_init_62 ?_
  have k373 : kd T368 a367 = 7 := by
    rw [← e371, ← e370]
    exact nT_kd _ _ _
  refine g_widen (sl := 142) (Nat.le_of_ble_eq_true rfl) ?_
  refine g_dup (pc := 65) G dX2_init_65 rfl ?_
  obtain ⟨T374, V375, e376, h⟩ := bd2_e h
  obtain ⟨z377, h⟩ := gd_e h
  refine g_callIN (pc := 66) (As := []) (rest := [rv b (some a367), .int 0, rv b (some r363)]) (st2 := [rv b (some a367), .int 0, rv b (some r363)]) G (c_Wo_init l D ca b k373 e376) (mb_Wo_init G.2.2.2.2.1) (q281 G.2.2.2.2.1) (q280 G.2.2.2.2.1) rfl rfl rfl (Nat.le_of_ble_eq_true rfl) ⟨Nat.le_trans (Nat.le_of_ble_eq_true rfl) hR.1, Nat.le_trans (Nat.le_of_ble_eq_true rfl) hR.2⟩ ⟨Nat.le_trans (Nat.le_of_ble_eq_true rfl) hC.1, Nat.le_trans (Nat.le_of_ble_eq_true rfl) hC.2⟩ (of_decide_eq_true z377) rfl dX2_init_66 ?_
  refine g_widen (sl := 152) (Nat.le_of_ble_eq_true rfl) ?_
  obtain ⟨r380, e379, h⟩ := bd_e h
  have k378 : kd T374 r363 = 15 := by
    obtain ⟨ee, k0⟩ := ck_e e379
    cases ee
    exact k0
  obtain ⟨r383, e382, h⟩ := bd_e h
  have k381 : kd T374 a367 = 7 := by
    obtain ⟨ee, k0⟩ := ck_e e382
    cases ee
    exact k0
  obtain ⟨b384, h⟩ := gd_e h
  obtain ⟨V385, e386, h⟩ := lt_e h
  refine g_aast (pc := 69) G (t0 := 5) k378 (by decide) rfl ci_7 k381 b384 e386 dX2_init_69 ?_
  refine g_iinc (v := 1) (L' := [(1, .int 1), (0, rv b (some this))]) (pc := 70) G dX2_init_70 0 rfl (by decide) (by decide) rfl ?_
  refine g_goto (pc := 73) G 51 dX2_init_73 (by decide) ?_
  refine g_iload_n (pc := 51) G dX2_init_51 0 rfl ?_
  refine g_bipush (pc := 52) G (v := 8) dX2_init_52 (by decide) ?_
  refine g_icmp_ge (pc := 54) G 76 dX2_init_54 (by decide) (fun c387 => absurd c387 (by decide)) (fun c387 => ?_)
  refine g_aload_n (pc := 57) G dX2_init_57 1 rfl ?_
  obtain ⟨r390, e389, h⟩ := bd_e h
  have k388 : kd T374 this = 2 := by
    obtain ⟨ee, k0⟩ := ck_e e389
    cases ee
    exact k0
  obtain ⟨r391, e392, h⟩ := bd_e h
  obtain ⟨f393, k394⟩ := ck_e e392
  refine g_getR (pc := 58) G ci_2 (uw_2 G.2.2.2.2.1) (k := 1) (by decide) rfl rfl k388 (q301 G.2.2.2.2.1) dX2_init_58 f393 ?_
  refine g_iload_n (pc := 61) G dX2_init_61 0 rfl ?_
  obtain ⟨a395, e398, h⟩ := lt_e h
  obtain ⟨T396, e399, h⟩ := lt_e h
  obtain ⟨V397, e400, h⟩ := lt_e h
  refine g_new (pc := 62) G ci_7 (uw_7 G.2.2.2.2.1) df_7 (q242 G.2.2.2.2.1) (q279 G.2.2.2.2.1) (q66 G.2.2.2.2.1) e399 e400 e398 ⟨Nat.le_trans (Nat.le_of_ble_eq_true rfl) hC.1, Nat.le_trans (Nat.le_of_ble_eq_true rfl) hC.2⟩ dX2_init_62 ?_
  have k401 : kd T396 a395 = 7 := by
    rw [← e399, ← e398]
    exact nT_kd _ _ _
  refine g_widen (sl := 154) (Nat.le_of_ble_eq_true rfl) ?_
  refine g_dup (pc := 65) G dX2_init_65 rfl ?_
  obtain ⟨T402, V403, e404, h⟩ := bd2_e h
  obtain ⟨z405, h⟩ := gd_e h
  refine g_callIN (pc := 66) (As := []) (rest := [rv b (some a395), .int 1, rv b (some r391)]) (st2 := [rv b (some a395), .int 1, rv b (some r391)]) G (c_Wo_init l D ca b k401 e404) (mb_Wo_init G.2.2.2.2.1) (q281 G.2.2.2.2.1) (q280 G.2.2.2.2.1) rfl rfl rfl (Nat.le_of_ble_eq_true rfl) ⟨Nat.le_trans (Nat.le_of_ble_eq_true rfl) hR.1, Nat.le_trans (Nat.le_of_ble_eq_true rfl) hR.2⟩ ⟨Nat.le_trans (Nat.le_of_ble_eq_true rfl) hC.1, Nat.le_trans (Nat.le_of_ble_eq_true rfl) hC.2⟩ (of_decide_eq_true z405) rfl dX2_init_66 ?_
  refine g_widen (sl := 164) (Nat.le_of_ble_eq_true rfl) ?_
  obtain ⟨r408, e407, h⟩ := bd_e h
  have k406 : kd T402 r391 = 15 := by
    obtain ⟨ee, k0⟩ := ck_e e407
    cases ee
    exact k0
  obtain ⟨r411, e410, h⟩ := bd_e h
  have k409 : kd T402 a395 = 7 := by
    obtain ⟨ee, k0⟩ := ck_e e410
    cases ee
    exact k0
  obtain ⟨b412, h⟩ := gd_e h
  obtain ⟨V413, e414, h⟩ := lt_e h
  refine g_aast (pc := 69) G (t0 := 5) k406 (by decide) rfl ci_7 k409 b412 e414 dX2_init_69 ?_
  refine g_iinc (v := 2) (L' := [(1, .int 2), (0, rv b (some this))]) (pc := 70) G dX2_init_70 0 rfl (by decide) (by decide) rfl ?_
  refine g_goto (pc := 73) G 51 dX2_init_73 (by decide) ?_
  refine g_iload_n (pc := 51) G dX2_init_51 0 rfl ?_
  refine g_bipush (pc := 52) G (v := 8) dX2_init_52 (by decide) ?_
  refine g_icmp_ge (pc := 54) G 76 dX2_init_54 (by decide) (fun c415 => absurd c415 (by decide)) (fun c415 => ?_)
  refine g_aload_n (pc := 57) G dX2_init_57 1 rfl ?_
  obtain ⟨r418, e417, h⟩ := bd_e h
  have k416 : kd T402 this = 2 := by
    obtain ⟨ee, k0⟩ := ck_e e417
    cases ee
    exact k0
  obtain ⟨r419, e420, h⟩ := bd_e h
  obtain ⟨f421, k422⟩ := ck_e e420
  refine g_getR (pc := 58) G ci_2 (uw_2 G.2.2.2.2.1) (k := 1) (by decide) rfl rfl k416 (q301 G.2.2.2.2.1) dX2_init_58 f421 ?_
  refine g_iload_n (pc := 61) G dX2_init_61 0 rfl ?_
  obtain ⟨a423, e426, h⟩ := lt_e h
  obtain ⟨T424, e427, h⟩ := lt_e h
  obtain ⟨V425, e428, h⟩ := lt_e h
  refine g_new (pc := 62) G ci_7 (uw_7 G.2.2.2.2.1) df_7 (q242 G.2.2.2.2.1) (q279 G.2.2.2.2.1) (q66 G.2.2.2.2.1) e427 e428 e426 ⟨Nat.le_trans (Nat.le_of_ble_eq_true rfl) hC.1, Nat.le_trans (Nat.le_of_ble_eq_true rfl) hC.2⟩ dX2_init_62 ?_
  have k429 : kd T424 a423 = 7 := by
    rw [← e427, ← e426]
    exact nT_kd _ _ _
  refine g_widen (sl := 166) (Nat.le_of_ble_eq_true rfl) ?_
  refine g_dup (pc := 65) G dX2_init_65 rfl ?_
  obtain ⟨T430, V431, e432, h⟩ := bd2_e h
  obtain ⟨z433, h⟩ := gd_e h
  refine g_callIN (pc := 66) (As := []) (rest := [rv b (some a423), .int 2, rv b (some r419)]) (st2 := [rv b (some a423), .int 2, rv b (some r419)]) G (c_Wo_init l D ca b k429 e432) (mb_Wo_init G.2.2.2.2.1) (q281 G.2.2.2.2.1) (q280 G.2.2.2.2.1) rfl rfl rfl (Nat.le_of_ble_eq_true rfl) ⟨Nat.le_trans (Nat.le_of_ble_eq_true rfl) hR.1, Nat.le_trans (Nat.le_of_ble_eq_true rfl) hR.2⟩ ⟨Nat.le_trans (Nat.le_of_ble_eq_true rfl) hC.1, Nat.le_trans (Nat.le_of_ble_eq_true rfl) hC.2⟩ (of_decide_eq_true z433) rfl dX2_init_66 ?_
  refine g_widen (sl := 176) (Nat.le_of_ble_eq_true rfl) ?_
  obtain ⟨r436, e435, h⟩ := bd_e h
  have k434 : kd T430 r419 = 15 := by
    obtain ⟨ee, k0⟩ := ck_e e435
    cases ee
    exact k0
  obtain ⟨r439, e438, h⟩ := bd_e h
  have k437 : kd T430 a423 = 7 := by
    obtain ⟨ee, k0⟩ := ck_e e438
    cases ee
    exact k0
  obtain ⟨b440, h⟩ := gd_e h
  obtain ⟨V441, e442, h⟩ := lt_e h
  refine g_aast (pc := 69) G (t0 := 5) k434 (by decide) rfl ci_7 k437 b440 e442 dX2_init_69 ?_
  refine g_iinc (v := 3) (L' := [(1, .int 3), (0, rv b (some this))]) (pc := 70) G dX2_init_70 0 rfl (by decide) (by decide) rfl ?_
  refine g_goto (pc := 73) G 51 dX2_init_73 (by decide) ?_
  refine g_iload_n (pc := 51) G dX2_init_51 0 rfl ?_
  refine g_bipush (pc := 52) G (v := 8) dX2_init_52 (by decide) ?_
  refine g_icmp_ge (pc := 54) G 76 dX2_init_54 (by decide) (fun c443 => absurd c443 (by decide)) (fun c443 => ?_)
  refine g_aload_n (pc := 57) G dX2_init_57 1 rfl ?_
  obtain ⟨r446, e445, h⟩ := bd_e h
  have k444 : kd T430 this = 2 := by
    obtain ⟨ee, k0⟩ := ck_e e445
    cases ee
    exact k0
  obtain ⟨r447, e448, h⟩ := bd_e h
  obtain ⟨f449, k450⟩ := ck_e e448
  refine g_getR (pc := 58) G ci_2 (uw_2 G.2.2.2.2.1) (k := 1) (by decide) rfl rfl k444 (q301 G.2.2.2.2.1) dX2_init_58 f449 ?_
  refine g_iload_n (pc := 61) G dX2_init_61 0 rfl ?_
  obtain ⟨a451, e454, h⟩ := lt_e h
  obtain ⟨T452, e455, h⟩ := lt_e h
  obtain ⟨V453, e456, h⟩ := lt_e h
  refine g_new (pc := 62) G ci_7 (uw_7 G.2.2.2.2.1) df_7 (q242 G.2.2.2.2.1) (q279 G.2.2.2.2.1) (q66 G.2.2.2.2.1) e455 e456 e454 ⟨Nat.le_trans (Nat.le_of_ble_eq_true rfl) hC.1, Nat.le_trans (Nat.le_of_ble_eq_true rfl) hC.2⟩ dX2_init_62 ?_
  have k457 : kd T452 a451 = 7 := by
    rw [← e455, ← e454]
    exact nT_kd _ _ _
  refine g_widen (sl := 178) (Nat.le_of_ble_eq_true rfl) ?_
  refine g_dup (pc := 65) G dX2_init_65 rfl ?_
  obtain ⟨T458, V459, e460, h⟩ := bd2_e h
  obtain ⟨z461, h⟩ := gd_e h
  refine g_callIN (pc := 66) (As := []) (rest := [rv b (some a451), .int 3, rv b (some r447)]) (st2 := [rv b (some a451), .int 3, rv b (some r447)]) G (c_Wo_init l D ca b k457 e460) (mb_Wo_init G.2.2.2.2.1) (q281 G.2.2.2.2.1) (q280 G.2.2.2.2.1) rfl rfl rfl (Nat.le_of_ble_eq_true rfl) ⟨Nat.le_trans (Nat.le_of_ble_eq_true rfl) hR.1, Nat.le_trans (Nat.le_of_ble_eq_true rfl) hR.2⟩ ⟨Nat.le_trans (Nat.le_of_ble_eq_true rfl) hC.1, Nat.le_trans (Nat.le_of_ble_eq_true rfl) hC.2⟩ (of_decide_eq_true z461) rfl dX2_init_66 ?_
  refine g_widen (sl := 188) (Nat.le_of_ble_eq_true rfl) ?_
  obtain ⟨r464, e463, h⟩ := bd_e h
  have k462 : kd T458 r447 = 15 := by
    obtain ⟨ee, k0⟩ := ck_e e463
    cases ee
    exact k0
  obtain ⟨r467, e466, h⟩ := bd_e h
  have k465 : kd T458 a451 = 7 := by
    obtain ⟨ee, k0⟩ := ck_e e466
    cases ee
    exact k0
  obtain ⟨b468, h⟩ := gd_e h
  obtain ⟨V469, e470, h⟩ := lt_e h
  refine g_aast (pc := 69) G (t0 := 5) k462 (by decide) rfl ci_7 k465 b468 e470 dX2_init_69 ?_
  refine g_iinc (v := 4) (L' := [(1, .int 4), (0, rv b (some this))]) (pc := 70) G dX2_init_70 0 rfl (by decide) (by decide) rfl ?_
  refine g_goto (pc := 73) G 51 dX2_init_73 (by decide) ?_
  refine g_iload_n (pc := 51) G dX2_init_51 0 rfl ?_
  refine g_bipush (pc := 52) G (v := 8) dX2_init_52 (by decide) ?_
  refine g_icmp_ge (pc := 54) G 76 dX2_init_54 (by decide) (fun c471 => absurd c471 (by decide)) (fun c471 => ?_)
  refine g_aload_n (pc := 57) G dX2_init_57 1 rfl ?_
  obtain ⟨r474, e473, h⟩ := bd_e h
  have k472 : kd T458 this = 2 := by
    obtain ⟨ee, k0⟩ := ck_e e473
    cases ee
    exact k0
  obtain ⟨r475, e476, h⟩ := bd_e h
  obtain ⟨f477, k478⟩ := ck_e e476
  refine g_getR (pc := 58) G ci_2 (uw_2 G.2.2.2.2.1) (k := 1) (by decide) rfl rfl k472 (q301 G.2.2.2.2.1) dX2_init_58 f477 ?_
  refine g_iload_n (pc := 61) G dX2_init_61 0 rfl ?_
  obtain ⟨a479, e482, h⟩ := lt_e h
  obtain ⟨T480, e483, h⟩ := lt_e h
  obtain ⟨V481, e484, h⟩ := lt_e h
  refine g_new (pc := 62) G ci_7 (uw_7 G.2.2.2.2.1) df_7 (q242 G.2.2.2.2.1) (q279 G.2.2.2.2.1) (q66 G.2.2.2.2.1) e483 e484 e482 ⟨Nat.le_trans (Nat.le_of_ble_eq_true rfl) hC.1, Nat.le_trans (Nat.le_of_ble_eq_true rfl) hC.2⟩ dX2_init_62 ?_
  have k485 : kd T480 a479 = 7 := by
    rw [← e483, ← e482]
    exact nT_kd _ _ _
  refine g_widen (sl := 190) (Nat.le_of_ble_eq_true rfl) ?_
  refine g_dup (pc := 65) G dX2_init_65 rfl ?_
  obtain ⟨T486, V487, e488, h⟩ := bd2_e h
  obtain ⟨z489, h⟩ := gd_e h
  refine g_callIN (pc := 66) (As := []) (rest := [rv b (some a479), .int 4, rv b (some r475)]) (st2 := [rv b (some a479), .int 4, rv b (some r475)]) G (c_Wo_init l D ca b k485 e488) (mb_Wo_init G.2.2.2.2.1) (q281 G.2.2.2.2.1) (q280 G.2.2.2.2.1) rfl rfl rfl (Nat.le_of_ble_eq_true rfl) ⟨Nat.le_trans (Nat.le_of_ble_eq_true rfl) hR.1, Nat.le_trans (Nat.le_of_ble_eq_true rfl) hR.2⟩ ⟨Nat.le_trans (Nat.le_of_ble_eq_true rfl) hC.1, Nat.le_trans (Nat.le_of_ble_eq_true rfl) hC.2⟩ (of_decide_eq_true z489) rfl dX2_init_66 ?_
  refine g_widen (sl := 200) (Nat.le_of_ble_eq_true rfl) ?_
  obtain ⟨r492, e491, h⟩ := bd_e h
  have k490 : kd T486 r475 = 15 := by
    obtain ⟨ee, k0⟩ := ck_e e491
    cases ee
    exact k0
  obtain ⟨r495, e494, h⟩ := bd_e h
  have k493 : kd T486 a479 = 7 := by
    obtain ⟨ee, k0⟩ := ck_e e494
    cases ee
    exact k0
  obtain ⟨b496, h⟩ := gd_e h
  obtain ⟨V497, e498, h⟩ := lt_e h
  refine g_aast (pc := 69) G (t0 := 5) k490 (by decide) rfl ci_7 k493 b496 e498 dX2_init_69 ?_
  refine g_iinc (v := 5) (L' := [(1, .int 5), (0, rv b (some this))]) (pc := 70) G dX2_init_70 0 rfl (by decide) (by decide) rfl ?_
  refine g_goto (pc := 73) G 51 dX2_init_73 (by decide) ?_
  refine g_iload_n (pc := 51) G dX2_init_51 0 rfl ?_
  refine g_bipush (pc := 52) G (v := 8) dX2_init_52 (by decide) ?_
  refine g_icmp_ge (pc := 54) G 76 dX2_init_54 (by decide) (fun c499 => absurd c499 (by decide)) (fun c499 => ?_)
  refine g_aload_n (pc := 57) G dX2_init_57 1 rfl ?_
  obtain ⟨r502, e501, h⟩ := bd_e h
  have k500 : kd T486 this = 2 := by
    obtain ⟨ee, k0⟩ := ck_e e501
    cases ee
    exact k0
  obtain ⟨r503, e504, h⟩ := bd_e h
  obtain ⟨f505, k506⟩ := ck_e e504
  refine g_getR (pc := 58) G ci_2 (uw_2 G.2.2.2.2.1) (k := 1) (by decide) rfl rfl k500 (q301 G.2.2.2.2.1) dX2_init_58 f505 ?_
  refine g_iload_n (pc := 61) G dX2_init_61 0 rfl ?_
  obtain ⟨a507, e510, h⟩ := lt_e h
  obtain ⟨T508, e511, h⟩ := lt_e h
  obtain ⟨V509, e512, h⟩ := lt_e h
  refine g_new (pc := 62) G ci_7 (uw_7 G.2.2.2.2.1) df_7 (q242 G.2.2.2.2.1) (q279 G.2.2.2.2.1) (q66 G.2.2.2.2.1) e511 e512 e510 ⟨Nat.le_trans (Nat.le_of_ble_eq_true rfl) hC.1, Nat.le_trans (Nat.le_of_ble_eq_true rfl) hC.2⟩ dX2_init_62 ?_
  have k513 : kd T508 a507 = 7 := by
    rw [← e511, ← e510]
    exact nT_kd _ _ _
  refine g_widen (sl := 202) (Nat.le_of_ble_eq_true rfl) ?_
  refine g_dup (pc := 65) G dX2_init_65 rfl ?_
  obtain ⟨T514, V515, e516, h⟩ := bd2_e h
  obtain ⟨z517, h⟩ := gd_e h
  refine g_callIN (pc := 66) (As := []) (rest := [rv b (some a507), .int 5, rv b (some r503)]) (st2 := [rv b (some a507), .int 5, rv b (some r503)]) G (c_Wo_init l D ca b k513 e516) (mb_Wo_init G.2.2.2.2.1) (q281 G.2.2.2.2.1) (q280 G.2.2.2.2.1) rfl rfl rfl (Nat.le_of_ble_eq_true rfl) ⟨Nat.le_trans (Nat.le_of_ble_eq_true rfl) hR.1, Nat.le_trans (Nat.le_of_ble_eq_true rfl) hR.2⟩ ⟨Nat.le_trans (Nat.le_of_ble_eq_true rfl) hC.1, Nat.le_trans (Nat.le_of_ble_eq_true rfl) hC.2⟩ (of_decide_eq_true z517) rfl dX2_init_66 ?_
  refine g_widen (sl := 212) (Nat.le_of_ble_eq_true rfl) ?_
  obtain ⟨r520, e519, h⟩ := bd_e h
  have k518 : kd T514 r503 = 15 := by
    obtain ⟨ee, k0⟩ := ck_e e519
    cases ee
    exact k0
  obtain ⟨r523, e522, h⟩ := bd_e h
  have k521 : kd T514 a507 = 7 := by
    obtain ⟨ee, k0⟩ := ck_e e522
    cases ee
    exact k0
  obtain ⟨b524, h⟩ := gd_e h
  obtain ⟨V525, e526, h⟩ := lt_e h
  refine g_aast (pc := 69) G (t0 := 5) k518 (by decide) rfl ci_7 k521 b524 e526 dX2_init_69 ?_
  refine g_iinc (v := 6) (L' := [(1, .int 6), (0, rv b (some this))]) (pc := 70) G dX2_init_70 0 rfl (by decide) (by decide) rfl ?_
  refine g_goto (pc := 73) G 51 dX2_init_73 (by decide) ?_
  refine g_iload_n (pc := 51) G dX2_init_51 0 rfl ?_
  refine g_bipush (pc := 52) G (v := 8) dX2_init_52 (by decide) ?_
  refine g_icmp_ge (pc := 54) G 76 dX2_init_54 (by decide) (fun c527 => absurd c527 (by decide)) (fun c527 => ?_)
  refine g_aload_n (pc := 57) G dX2_init_57 1 rfl ?_
  obtain ⟨r530, e529, h⟩ := bd_e h
  have k528 : kd T514 this = 2 := by
    obtain ⟨ee, k0⟩ := ck_e e529
    cases ee
    exact k0
  obtain ⟨r531, e532, h⟩ := bd_e h
  obtain ⟨f533, k534⟩ := ck_e e532
  refine g_getR (pc := 58) G ci_2 (uw_2 G.2.2.2.2.1) (k := 1) (by decide) rfl rfl k528 (q301 G.2.2.2.2.1) dX2_init_58 f533 ?_
  refine g_iload_n (pc := 61) G dX2_init_61 0 rfl ?_
  obtain ⟨a535, e538, h⟩ := lt_e h
  obtain ⟨T536, e539, h⟩ := lt_e h
  obtain ⟨V537, e540, h⟩ := lt_e h
  refine g_new (pc := 62) G ci_7 (uw_7 G.2.2.2.2.1) df_7 (q242 G.2.2.2.2.1) (q279 G.2.2.2.2.1) (q66 G.2.2.2.2.1) e539 e540 e538 ⟨Nat.le_trans (Nat.le_of_ble_eq_true rfl) hC.1, Nat.le_trans (Nat.le_of_ble_eq_true rfl) hC.2⟩ dX2_init_62 ?_
  have k541 : kd T536 a535 = 7 := by
    rw [← e539, ← e538]
    exact nT_kd _ _ _
  refine g_widen (sl := 214) (Nat.le_of_ble_eq_true rfl) ?_
  refine g_dup (pc := 65) G dX2_init_65 rfl ?_
  obtain ⟨T542, V543, e544, h⟩ := bd2_e h
  obtain ⟨z545, h⟩ := gd_e h
  refine g_callIN (pc := 66) (As := []) (rest := [rv b (some a535), .int 6, rv b (some r531)]) (st2 := [rv b (some a535), .int 6, rv b (some r531)]) G (c_Wo_init l D ca b k541 e544) (mb_Wo_init G.2.2.2.2.1) (q281 G.2.2.2.2.1) (q280 G.2.2.2.2.1) rfl rfl rfl (Nat.le_of_ble_eq_true rfl) ⟨Nat.le_trans (Nat.le_of_ble_eq_true rfl) hR.1, Nat.le_trans (Nat.le_of_ble_eq_true rfl) hR.2⟩ ⟨Nat.le_trans (Nat.le_of_ble_eq_true rfl) hC.1, Nat.le_trans (Nat.le_of_ble_eq_true rfl) hC.2⟩ (of_decide_eq_true z545) rfl dX2_init_66 ?_
  refine g_widen (sl := 224) (Nat.le_of_ble_eq_true rfl) ?_
  obtain ⟨r548, e547, h⟩ := bd_e h
  have k546 : kd T542 r531 = 15 := by
    obtain ⟨ee, k0⟩ := ck_e e547
    cases ee
    exact k0
  obtain ⟨r551, e550, h⟩ := bd_e h
  have k549 : kd T542 a535 = 7 := by
    obtain ⟨ee, k0⟩ := ck_e e550
    cases ee
    exact k0
  obtain ⟨b552, h⟩ := gd_e h
  obtain ⟨V553, e554, h⟩ := lt_e h
  refine g_aast (pc := 69) G (t0 := 5) k546 (by decide) rfl ci_7 k549 b552 e554 dX2_init_69 ?_
  refine g_iinc (v := 7) (L' := [(1, .int 7), (0, rv b (some this))]) (pc := 70) G dX2_init_70 0 rfl (by decide) (by decide) rfl ?_
  refine g_goto (pc := 73) G 51 dX2_init_73 (by decide) ?_
  refine g_iload_n (pc := 51) G dX2_init_51 0 rfl ?_
  refine g_bipush (pc := 52) G (v := 8) dX2_init_52 (by decide) ?_
  refine g_icmp_ge (pc := 54) G 76 dX2_init_54 (by decide) (fun c555 => absurd c555 (by decide)) (fun c555 => ?_)
  refine g_aload_n (pc := 57) G dX2_init_57 1 rfl ?_
  obtain ⟨r558, e557, h⟩ := bd_e h
  have k556 : kd T542 this = 2 := by
    obtain ⟨ee, k0⟩ := ck_e e557
    cases ee
    exact k0
  obtain ⟨r559, e560, h⟩ := bd_e h
  obtain ⟨f561, k562⟩ := ck_e e560
  refine g_getR (pc := 58) G ci_2 (uw_2 G.2.2.2.2.1) (k := 1) (by decide) rfl rfl k556 (q301 G.2.2.2.2.1) dX2_init_58 f561 ?_
  refine g_iload_n (pc := 61) G dX2_init_61 0 rfl ?_
  obtain ⟨a563, e566, h⟩ := lt_e h
  obtain ⟨T564, e567, h⟩ := lt_e h
  obtain ⟨V565, e568, h⟩ := lt_e h
  refine g_new (pc := 62) G ci_7 (uw_7 G.2.2.2.2.1) df_7 (q242 G.2.2.2.2.1) (q279 G.2.2.2.2.1) (q66 G.2.2.2.2.1) e567 e568 e566 ⟨Nat.le_trans (Nat.le_of_ble_eq_true rfl) hC.1, Nat.le_trans (Nat.le_of_ble_eq_true rfl) hC.2⟩ dX2_init_62 ?_
  have k569 : kd T564 a563 = 7 := by
    rw [← e567, ← e566]
    exact nT_kd _ _ _
  refine g_widen (sl := 226) (Nat.le_of_ble_eq_true rfl) ?_
  refine g_dup (pc := 65) G dX2_init_65 rfl ?_
  obtain ⟨T570, V571, e572, h⟩ := bd2_e h
  obtain ⟨z573, h⟩ := gd_e h
  refine g_callIN (pc := 66) (As := []) (rest := [rv b (some a563), .int 7, rv b (some r559)]) (st2 := [rv b (some a563), .int 7, rv b (some r559)]) G (c_Wo_init l D ca b k569 e572) (mb_Wo_init G.2.2.2.2.1) (q281 G.2.2.2.2.1) (q280 G.2.2.2.2.1) rfl rfl rfl (Nat.le_of_ble_eq_true rfl) ⟨Nat.le_trans (Nat.le_of_ble_eq_true rfl) hR.1, Nat.le_trans (Nat.le_of_ble_eq_true rfl) hR.2⟩ ⟨Nat.le_trans (Nat.le_of_ble_eq_true rfl) hC.1, Nat.le_trans (Nat.le_of_ble_eq_true rfl) hC.2⟩ (of_decide_eq_true z573) rfl dX2_init_66 ?_
  refine g_widen (sl := 236) (Nat.le_of_ble_eq_true rfl) ?_
  obtain ⟨r576, e575, h⟩ := bd_e h
  have k574 : kd T570 r559 = 15 := by
    obtain ⟨ee, k0⟩ := ck_e e575
    cases ee
    exact k0
  obtain ⟨r579, e578, h⟩ := bd_e h
  have k577 : kd T570 a563 = 7 := by
    obtain ⟨ee, k0⟩ := ck_e e578
    cases ee
    exact k0
  obtain ⟨b580, h⟩ := gd_e h
  obtain ⟨V581, e582, h⟩ := lt_e h
  refine g_aast (pc := 69) G (t0 := 5) k574 (by decide) rfl ci_7 k577 b580 e582 dX2_init_69 ?_
  refine g_iinc (v := 8) (L' := [(1, .int 8), (0, rv b (some this))]) (pc := 70) G dX2_init_70 0 rfl (by decide) (by decide) rfl ?_
  refine g_goto (pc := 73) G 51 dX2_init_73 (by decide) ?_
  refine g_iload_n (pc := 51) G dX2_init_51 0 rfl ?_
  refine g_bipush (pc := 52) G (v := 8) dX2_init_52 (by decide) ?_
  refine g_icmp_ge (pc := 54) G 76 dX2_init_54 (by decide) (fun c583 => ?_) (fun c583 => absurd (by decide) c583)
  cases h
  exact g_vret (pc := 76) G dX2_init_76
theorem c_Lx_init (l : Launch) (D : va_G) (ca : Nat → ClassId) (b : Nat) {T : Tx} {V : Vx} {this : Nat} {Tf : Tx} {Vf : Vx} (k_this : kd T this = 2) (h : Lx_init T V this = some (Tf, Vf)) : MG l yX2_init cX2_init 2 (Option.none : Option Jvm.ClassFile.FieldType) 3 62 62 236 D ca b [rv b (some this)] T V none Tf Vf :=
  MG.ofWG (L := [(0, rv b (some this))]) (by decide +kernel) rfl (Nat.le_of_ble_eq_true rfl) (fun _ _ _ _ _ _ _ G _ => w_Lx_init G ⟨Nat.le_refl _, Nat.le_refl _⟩ ⟨Nat.le_refl _, Nat.le_refl _⟩ k_this h)

set_option maxHeartbeats 4000000 in
set_option maxRecDepth 100000 in
theorem w_Re_init {p : Program} {l : Launch} {e : Env} {R : Room} {s : State} {m : MethodId} {args : Array Value} {below : List Frame} {meth : Method} {c : Code} {D : va_G} {ca : Nat → ClassId} {b : Nat} {T : Tx} {V : Vx} (G : GX p s m meth c cX4_init 1 (Option.none : Option Jvm.ClassFile.FieldType) RX4 "<init>" D ca b) (hR : 1 ≤ R.frames ∧ 20 ≤ R.locals) {this : Nat} (hC : 5 ≤ R.cells ∧ 78 ≤ R.slots) {Tf : Tx} {Vf : Vx} (k_this : kd T this = 3) (h : Re_init T V this = some (Tf, Vf)) : WG p l e R s m args below meth c D ca b 1 (QG D ca b none Tf Vf below args s 5 78) 0 0 T V 0 [(0, rv b (some this))] [] := by
  unfold Re_init at h
  refine g_aload_n (pc := 0) G dX4_init_0 0 rfl ?_
  refine g_objInit (pc := 1) G (q161 G.2.2.2.2.1) (q77 G.2.2.2.2.1) (q_objc G.2.2.2.2.1) dX4_init_1 ⟨Nat.le_trans (Nat.le_of_ble_eq_true rfl) hR.1, Nat.le_trans (Nat.le_of_ble_eq_true rfl) hR.2⟩ ?_
  refine g_aload_n (pc := 4) G dX4_init_4 0 rfl ?_
  refine g_bipush (pc := 5) G (v := 10) dX4_init_5 (by decide) ?_
  obtain ⟨a1, e4, h⟩ := lt_e h
  obtain ⟨T2, e5, h⟩ := lt_e h
  obtain ⟨V3, e6, h⟩ := lt_e h
  refine g_newaI (pc := 7) G (q110 G.2.2.2.2.1) (N := 10) (by decide) (by decide) (Nat.le_of_ble_eq_true rfl) e5 e6 e4 ⟨Nat.le_trans (Nat.le_of_ble_eq_true rfl) hC.1, Nat.le_trans (Nat.le_of_ble_eq_true rfl) hC.2⟩ dX4_init_7 ?_
  have k7 : kd T2 a1 = 11 := by
    rw [← e5, ← e4]
    exact nT_kd _ _ _
  refine g_widen (sl := 10) (Nat.le_of_ble_eq_true rfl) ?_
  obtain ⟨r10, e9, h⟩ := bd_e h
  have k8 : kd T2 this = 3 := by
    obtain ⟨ee, k0⟩ := ck_e e9
    cases ee
    exact k0
  obtain ⟨V11, e12, h⟩ := lt_e h
  refine g_putRF (pc := 9) G ci_3 (uw_3 G.2.2.2.2.1) (k := 0) (by decide) rfl rfl k8 rfl rfl rfl (fun _ => ⟨rfl, rfl⟩) (q162 G.2.2.2.2.1) e12 dX4_init_9 ?_
  refine g_aload_n (pc := 12) G dX4_init_12 0 rfl ?_
  refine g_bipush (pc := 13) G (v := 17) dX4_init_13 (by decide) ?_
  obtain ⟨a13, e16, h⟩ := lt_e h
  obtain ⟨T14, e17, h⟩ := lt_e h
  obtain ⟨V15, e18, h⟩ := lt_e h
  refine g_newaJ (pc := 15) G (q155 G.2.2.2.2.1) (N := 17) (by decide) (by decide) (Nat.le_of_ble_eq_true rfl) e17 e18 e16 ⟨Nat.le_trans (Nat.le_of_ble_eq_true rfl) hC.1, Nat.le_trans (Nat.le_of_ble_eq_true rfl) hC.2⟩ dX4_init_15 ?_
  have k19 : kd T14 a13 = 12 := by
    rw [← e17, ← e16]
    exact nT_kd _ _ _
  refine g_widen (sl := 27) (Nat.le_of_ble_eq_true rfl) ?_
  obtain ⟨r22, e21, h⟩ := bd_e h
  have k20 : kd T14 this = 3 := by
    obtain ⟨ee, k0⟩ := ck_e e21
    cases ee
    exact k0
  obtain ⟨V23, e24, h⟩ := lt_e h
  refine g_putRF (pc := 17) G ci_3 (uw_3 G.2.2.2.2.1) (k := 1) (by decide) rfl rfl k20 rfl rfl rfl (fun _ => ⟨rfl, rfl⟩) (q163 G.2.2.2.2.1) e24 dX4_init_17 ?_
  refine g_aload_n (pc := 20) G dX4_init_20 0 rfl ?_
  refine g_bipush (pc := 21) G (v := 17) dX4_init_21 (by decide) ?_
  obtain ⟨a25, e28, h⟩ := lt_e h
  obtain ⟨T26, e29, h⟩ := lt_e h
  obtain ⟨V27, e30, h⟩ := lt_e h
  refine g_newaI (pc := 23) G (q110 G.2.2.2.2.1) (N := 17) (by decide) (by decide) (Nat.le_of_ble_eq_true rfl) e29 e30 e28 ⟨Nat.le_trans (Nat.le_of_ble_eq_true rfl) hC.1, Nat.le_trans (Nat.le_of_ble_eq_true rfl) hC.2⟩ dX4_init_23 ?_
  have k31 : kd T26 a25 = 11 := by
    rw [← e29, ← e28]
    exact nT_kd _ _ _
  refine g_widen (sl := 44) (Nat.le_of_ble_eq_true rfl) ?_
  obtain ⟨r34, e33, h⟩ := bd_e h
  have k32 : kd T26 this = 3 := by
    obtain ⟨ee, k0⟩ := ck_e e33
    cases ee
    exact k0
  obtain ⟨V35, e36, h⟩ := lt_e h
  refine g_putRF (pc := 25) G ci_3 (uw_3 G.2.2.2.2.1) (k := 2) (by decide) rfl rfl k32 rfl rfl rfl (fun _ => ⟨rfl, rfl⟩) (q164 G.2.2.2.2.1) e36 dX4_init_25 ?_
  refine g_aload_n (pc := 28) G dX4_init_28 0 rfl ?_
  refine g_bipush (pc := 29) G (v := 17) dX4_init_29 (by decide) ?_
  obtain ⟨a37, e40, h⟩ := lt_e h
  obtain ⟨T38, e41, h⟩ := lt_e h
  obtain ⟨V39, e42, h⟩ := lt_e h
  refine g_newaI (pc := 31) G (q110 G.2.2.2.2.1) (N := 17) (by decide) (by decide) (Nat.le_of_ble_eq_true rfl) e41 e42 e40 ⟨Nat.le_trans (Nat.le_of_ble_eq_true rfl) hC.1, Nat.le_trans (Nat.le_of_ble_eq_true rfl) hC.2⟩ dX4_init_31 ?_
  have k43 : kd T38 a37 = 11 := by
    rw [← e41, ← e40]
    exact nT_kd _ _ _
  refine g_widen (sl := 61) (Nat.le_of_ble_eq_true rfl) ?_
  obtain ⟨r46, e45, h⟩ := bd_e h
  have k44 : kd T38 this = 3 := by
    obtain ⟨ee, k0⟩ := ck_e e45
    cases ee
    exact k0
  obtain ⟨V47, e48, h⟩ := lt_e h
  refine g_putRF (pc := 33) G ci_3 (uw_3 G.2.2.2.2.1) (k := 3) (by decide) rfl rfl k44 rfl rfl rfl (fun _ => ⟨rfl, rfl⟩) (q165 G.2.2.2.2.1) e48 dX4_init_33 ?_
  refine g_aload_n (pc := 36) G dX4_init_36 0 rfl ?_
  refine g_bipush (pc := 37) G (v := 17) dX4_init_37 (by decide) ?_
  obtain ⟨a49, e52, h⟩ := lt_e h
  obtain ⟨T50, e53, h⟩ := lt_e h
  obtain ⟨V51, e54, h⟩ := lt_e h
  refine g_newaI (pc := 39) G (q110 G.2.2.2.2.1) (N := 17) (by decide) (by decide) (Nat.le_of_ble_eq_true rfl) e53 e54 e52 ⟨Nat.le_trans (Nat.le_of_ble_eq_true rfl) hC.1, Nat.le_trans (Nat.le_of_ble_eq_true rfl) hC.2⟩ dX4_init_39 ?_
  have k55 : kd T50 a49 = 11 := by
    rw [← e53, ← e52]
    exact nT_kd _ _ _
  refine g_widen (sl := 78) (Nat.le_of_ble_eq_true rfl) ?_
  obtain ⟨r58, e57, h⟩ := bd_e h
  have k56 : kd T50 this = 3 := by
    obtain ⟨ee, k0⟩ := ck_e e57
    cases ee
    exact k0
  obtain ⟨V59, e60, h⟩ := lt_e h
  refine g_putRF (pc := 41) G ci_3 (uw_3 G.2.2.2.2.1) (k := 4) (by decide) rfl rfl k56 rfl rfl rfl (fun _ => ⟨rfl, rfl⟩) (q166 G.2.2.2.2.1) e60 dX4_init_41 ?_
  cases h
  exact g_vret (pc := 44) G dX4_init_44
theorem c_Re_init (l : Launch) (D : va_G) (ca : Nat → ClassId) (b : Nat) {T : Tx} {V : Vx} {this : Nat} {Tf : Tx} {Vf : Vx} (k_this : kd T this = 3) (h : Re_init T V this = some (Tf, Vf)) : MG l yX4_init cX4_init 1 (Option.none : Option Jvm.ClassFile.FieldType) 1 20 5 78 D ca b [rv b (some this)] T V none Tf Vf :=
  MG.ofWG (L := [(0, rv b (some this))]) (by decide +kernel) rfl (Nat.le_of_ble_eq_true rfl) (fun _ _ _ _ _ _ _ G _ => w_Re_init G ⟨Nat.le_refl _, Nat.le_refl _⟩ ⟨Nat.le_refl _, Nat.le_refl _⟩ k_this h)

set_option maxHeartbeats 4000000 in
set_option maxRecDepth 100000 in
theorem w_Sc_init {p : Program} {l : Launch} {e : Env} {R : Room} {s : State} {m : MethodId} {args : Array Value} {below : List Frame} {meth : Method} {c : Code} {D : va_G} {ca : Nat → ClassId} {b : Nat} {T : Tx} {V : Vx} (G : GX p s m meth c cX6_init 2 (Option.none : Option Jvm.ClassFile.FieldType) RX6 "<init>" D ca b) (hR : 2 ≤ R.frames ∧ 42 ≤ R.locals) {this : Nat} (hC : 21 ≤ R.cells ∧ 124 ≤ R.slots) {Tf : Tx} {Vf : Vx} (k_this : kd T this = 5) (h : Sc_init T V this = some (Tf, Vf)) : WG p l e R s m args below meth c D ca b 2 (QG D ca b none Tf Vf below args s 21 124) 0 0 T V 0 [(0, rv b (some this))] [] := by
  unfold Sc_init at h
  refine g_aload_n (pc := 0) G dX6_init_0 0 rfl ?_
  refine g_objInit (pc := 1) G (q132 G.2.2.2.2.1) (q77 G.2.2.2.2.1) (q_objc G.2.2.2.2.1) dX6_init_1 ⟨Nat.le_trans (Nat.le_of_ble_eq_true rfl) hR.1, Nat.le_trans (Nat.le_of_ble_eq_true rfl) hR.2⟩ ?_
  refine g_aload_n (pc := 4) G dX6_init_4 0 rfl ?_
  refine g_bipush (pc := 5) G (v := 8) dX6_init_5 (by decide) ?_
  obtain ⟨a1, e4, h⟩ := lt_e h
  obtain ⟨T2, e5, h⟩ := lt_e h
  obtain ⟨V3, e6, h⟩ := lt_e h
  refine g_newq (pc := 7) G (q133 G.2.2.2.2.1) (q134 G.2.2.2.2.1) (by decide) (t0 := 3) rfl (N := 8) (by decide) (by decide) (Nat.le_of_ble_eq_true rfl) e5 e6 e4 ⟨Nat.le_trans (Nat.le_of_ble_eq_true rfl) hC.1, Nat.le_trans (Nat.le_of_ble_eq_true rfl) hC.2⟩ dX6_init_7 ?_
  have k7 : kd T2 a1 = 13 := by
    rw [← e5, ← e4]
    exact nT_kd _ _ _
  refine g_widen (sl := 8) (Nat.le_of_ble_eq_true rfl) ?_
  obtain ⟨r10, e9, h⟩ := bd_e h
  have k8 : kd T2 this = 5 := by
    obtain ⟨ee, k0⟩ := ck_e e9
    cases ee
    exact k0
  obtain ⟨V11, e12, h⟩ := lt_e h
  refine g_putRF (pc := 10) G ci_5 (uw_5 G.2.2.2.2.1) (k := 0) (by decide) rfl rfl k8 rfl rfl rfl (fun _ => ⟨rfl, rfl⟩) (q136 G.2.2.2.2.1) e12 dX6_init_10 ?_
  refine g_aload_n (pc := 13) G dX6_init_13 0 rfl ?_
  refine g_bipush (pc := 14) G (v := 9) dX6_init_14 (by decide) ?_
  obtain ⟨a13, e16, h⟩ := lt_e h
  obtain ⟨T14, e17, h⟩ := lt_e h
  obtain ⟨V15, e18, h⟩ := lt_e h
  refine g_newaI (pc := 16) G (q110 G.2.2.2.2.1) (N := 9) (by decide) (by decide) (Nat.le_of_ble_eq_true rfl) e17 e18 e16 ⟨Nat.le_trans (Nat.le_of_ble_eq_true rfl) hC.1, Nat.le_trans (Nat.le_of_ble_eq_true rfl) hC.2⟩ dX6_init_16 ?_
  have k19 : kd T14 a13 = 11 := by
    rw [← e17, ← e16]
    exact nT_kd _ _ _
  refine g_widen (sl := 17) (Nat.le_of_ble_eq_true rfl) ?_
  obtain ⟨r22, e21, h⟩ := bd_e h
  have k20 : kd T14 this = 5 := by
    obtain ⟨ee, k0⟩ := ck_e e21
    cases ee
    exact k0
  obtain ⟨V23, e24, h⟩ := lt_e h
  refine g_putRF (pc := 18) G ci_5 (uw_5 G.2.2.2.2.1) (k := 1) (by decide) rfl rfl k20 rfl rfl rfl (fun _ => ⟨rfl, rfl⟩) (q137 G.2.2.2.2.1) e24 dX6_init_18 ?_
  refine g_aload_n (pc := 21) G dX6_init_21 0 rfl ?_
  refine g_bipush (pc := 22) G (v := 9) dX6_init_22 (by decide) ?_
  obtain ⟨a25, e28, h⟩ := lt_e h
  obtain ⟨T26, e29, h⟩ := lt_e h
  obtain ⟨V27, e30, h⟩ := lt_e h
  refine g_newaI (pc := 24) G (q110 G.2.2.2.2.1) (N := 9) (by decide) (by decide) (Nat.le_of_ble_eq_true rfl) e29 e30 e28 ⟨Nat.le_trans (Nat.le_of_ble_eq_true rfl) hC.1, Nat.le_trans (Nat.le_of_ble_eq_true rfl) hC.2⟩ dX6_init_24 ?_
  have k31 : kd T26 a25 = 11 := by
    rw [← e29, ← e28]
    exact nT_kd _ _ _
  refine g_widen (sl := 26) (Nat.le_of_ble_eq_true rfl) ?_
  obtain ⟨r34, e33, h⟩ := bd_e h
  have k32 : kd T26 this = 5 := by
    obtain ⟨ee, k0⟩ := ck_e e33
    cases ee
    exact k0
  obtain ⟨V35, e36, h⟩ := lt_e h
  refine g_putRF (pc := 26) G ci_5 (uw_5 G.2.2.2.2.1) (k := 2) (by decide) rfl rfl k32 rfl rfl rfl (fun _ => ⟨rfl, rfl⟩) (q138 G.2.2.2.2.1) e36 dX6_init_26 ?_
  refine g_aload_n (pc := 29) G dX6_init_29 0 rfl ?_
  refine g_bipush (pc := 30) G (v := 9) dX6_init_30 (by decide) ?_
  obtain ⟨a37, e40, h⟩ := lt_e h
  obtain ⟨T38, e41, h⟩ := lt_e h
  obtain ⟨V39, e42, h⟩ := lt_e h
  refine g_newaI (pc := 32) G (q110 G.2.2.2.2.1) (N := 9) (by decide) (by decide) (Nat.le_of_ble_eq_true rfl) e41 e42 e40 ⟨Nat.le_trans (Nat.le_of_ble_eq_true rfl) hC.1, Nat.le_trans (Nat.le_of_ble_eq_true rfl) hC.2⟩ dX6_init_32 ?_
  have k43 : kd T38 a37 = 11 := by
    rw [← e41, ← e40]
    exact nT_kd _ _ _
  refine g_widen (sl := 35) (Nat.le_of_ble_eq_true rfl) ?_
  obtain ⟨r46, e45, h⟩ := bd_e h
  have k44 : kd T38 this = 5 := by
    obtain ⟨ee, k0⟩ := ck_e e45
    cases ee
    exact k0
  obtain ⟨V47, e48, h⟩ := lt_e h
  refine g_putRF (pc := 34) G ci_5 (uw_5 G.2.2.2.2.1) (k := 3) (by decide) rfl rfl k44 rfl rfl rfl (fun _ => ⟨rfl, rfl⟩) (q139 G.2.2.2.2.1) e48 dX6_init_34 ?_
  refine g_aload_n (pc := 37) G dX6_init_37 0 rfl ?_
  refine g_bipush (pc := 38) G (v := 9) dX6_init_38 (by decide) ?_
  obtain ⟨a49, e52, h⟩ := lt_e h
  obtain ⟨T50, e53, h⟩ := lt_e h
  obtain ⟨V51, e54, h⟩ := lt_e h
  refine g_newaJ (pc := 40) G (q155 G.2.2.2.2.1) (N := 9) (by decide) (by decide) (Nat.le_of_ble_eq_true rfl) e53 e54 e52 ⟨Nat.le_trans (Nat.le_of_ble_eq_true rfl) hC.1, Nat.le_trans (Nat.le_of_ble_eq_true rfl) hC.2⟩ dX6_init_40 ?_
  have k55 : kd T50 a49 = 12 := by
    rw [← e53, ← e52]
    exact nT_kd _ _ _
  refine g_widen (sl := 44) (Nat.le_of_ble_eq_true rfl) ?_
  obtain ⟨r58, e57, h⟩ := bd_e h
  have k56 : kd T50 this = 5 := by
    obtain ⟨ee, k0⟩ := ck_e e57
    cases ee
    exact k0
  obtain ⟨V59, e60, h⟩ := lt_e h
  refine g_putRF (pc := 42) G ci_5 (uw_5 G.2.2.2.2.1) (k := 4) (by decide) rfl rfl k56 rfl rfl rfl (fun _ => ⟨rfl, rfl⟩) (q140 G.2.2.2.2.1) e60 dX6_init_42 ?_
  refine g_iconst (pc := 45) G (v := 0) dX6_init_45 (by decide) ?_
  refine g_istore_n (L' := [(1, .int 0), (0, rv b (some this))]) (pc := 46) G dX6_init_46 (by decide) rfl ?_
  refine g_iload_n (pc := 47) G dX6_init_47 0 rfl ?_
  refine g_bipush (pc := 48) G (v := 8) dX6_init_48 (by decide) ?_
  refine g_icmp_ge (pc := 50) G 74 dX6_init_50 (by decide) (fun c61 => absurd c61 (by decide)) (fun c61 => ?_)
  refine g_aload_n (pc := 53) G dX6_init_53 1 rfl ?_
  obtain ⟨r62, e63, h⟩ := bd_e h
  obtain ⟨f64, k65⟩ := ck_e e63
  refine g_getR (pc := 54) G ci_5 (uw_5 G.2.2.2.2.1) (k := 0) (by decide) rfl rfl k56 (q136 G.2.2.2.2.1) dX6_init_54 f64 ?_
  refine g_iload_n (pc := 57) G dX6_init_57 0 rfl ?_
  obtain ⟨a66, e69, h⟩ := lt_e h
  obtain ⟨T67, e70, h⟩ := lt_e h
  obtain ⟨V68, e71, h⟩ := lt_e h
  refine g_new (pc := 58) G ci_4 (uw_4 G.2.2.2.2.1) df_4 (q133 G.2.2.2.2.1) (q97 G.2.2.2.2.1) (q56 G.2.2.2.2.1) e70 e71 e69 ⟨Nat.le_trans (Nat.le_of_ble_eq_true rfl) hC.1, Nat.le_trans (Nat.le_of_ble_eq_true rfl) hC.2⟩ dX6_init_58 ?_
  have k72 : kd T67 a66 = 4 := by
    rw [← e70, ← e69]
    exact nT_kd _ _ _
  refine g_widen (sl := 46) (Nat.le_of_ble_eq_true rfl) ?_
  refine g_dup (pc := 61) G dX6_init_61 rfl ?_
  refine g_bipush (pc := 62) G (v := 8) dX6_init_62 (by decide) ?_
  obtain ⟨T73, V74, e75, h⟩ := bd2_e h
  obtain ⟨z76, h⟩ := gd_e h
  refine g_callI (pc := 64) (As := [.int 8]) (rest := [rv b (some a66), .int 0, rv b (some r62)]) (st2 := [rv b (some a66), .int 0, rv b (some r62)]) G (c_Ro_init l D ca b k72 e75) (mb_Ro_init G.2.2.2.2.1) (q99 G.2.2.2.2.1) (q135 G.2.2.2.2.1) rfl rfl rfl (Nat.le_of_ble_eq_true rfl) ⟨Nat.le_trans (Nat.le_of_ble_eq_true rfl) hR.1, Nat.le_trans (Nat.le_of_ble_eq_true rfl) hR.2⟩ ⟨Nat.le_trans (Nat.le_of_ble_eq_true rfl) hC.1, Nat.le_trans (Nat.le_of_ble_eq_true rfl) hC.2⟩ (of_decide_eq_true z76) rfl dX6_init_64 ?_
  refine g_widen (sl := 54) (Nat.le_of_ble_eq_true rfl) ?_
  obtain ⟨r79, e78, h⟩ := bd_e h
  have k77 : kd T73 r62 = 13 := by
    obtain ⟨ee, k0⟩ := ck_e e78
    cases ee
    exact k0
  obtain ⟨r82, e81, h⟩ := bd_e h
  have k80 : kd T73 a66 = 4 := by
    obtain ⟨ee, k0⟩ := ck_e e81
    cases ee
    exact k0
  obtain ⟨b83, h⟩ := gd_e h
  obtain ⟨V84, e85, h⟩ := lt_e h
  refine g_aast (pc := 67) G (t0 := 3) k77 (by decide) rfl ci_4 k80 b83 e85 dX6_init_67 ?_
  refine g_iinc (v := 1) (L' := [(1, .int 1), (0, rv b (some this))]) (pc := 68) G dX6_init_68 0 rfl (by decide) (by decide) rfl ?_
  refine g_goto (pc := 71) G 47 dX6_init_71 (by decide) ?_
  refine g_iload_n (pc := 47) G dX6_init_47 0 rfl ?_
  refine g_bipush (pc := 48) G (v := 8) dX6_init_48 (by decide) ?_
  refine g_icmp_ge (pc := 50) G 74 dX6_init_50 (by decide) (fun c86 => absurd c86 (by decide)) (fun c86 => ?_)
  refine g_aload_n (pc := 53) G dX6_init_53 1 rfl ?_
  obtain ⟨r89, e88, h⟩ := bd_e h
  have k87 : kd T73 this = 5 := by
    obtain ⟨ee, k0⟩ := ck_e e88
    cases ee
    exact k0
  obtain ⟨r90, e91, h⟩ := bd_e h
  obtain ⟨f92, k93⟩ := ck_e e91
  refine g_getR (pc := 54) G ci_5 (uw_5 G.2.2.2.2.1) (k := 0) (by decide) rfl rfl k87 (q136 G.2.2.2.2.1) dX6_init_54 f92 ?_
  refine g_iload_n (pc := 57) G dX6_init_57 0 rfl ?_
  obtain ⟨a94, e97, h⟩ := lt_e h
  obtain ⟨T95, e98, h⟩ := lt_e h
  obtain ⟨V96, e99, h⟩ := lt_e h
  refine g_new (pc := 58) G ci_4 (uw_4 G.2.2.2.2.1) df_4 (q133 G.2.2.2.2.1) (q97 G.2.2.2.2.1) (q56 G.2.2.2.2.1) e98 e99 e97 ⟨Nat.le_trans (Nat.le_of_ble_eq_true rfl) hC.1, Nat.le_trans (Nat.le_of_ble_eq_true rfl) hC.2⟩ dX6_init_58 ?_
  have k100 : kd T95 a94 = 4 := by
    rw [← e98, ← e97]
    exact nT_kd _ _ _
  refine g_widen (sl := 56) (Nat.le_of_ble_eq_true rfl) ?_
  refine g_dup (pc := 61) G dX6_init_61 rfl ?_
  refine g_bipush (pc := 62) G (v := 8) dX6_init_62 (by decide) ?_
  obtain ⟨T101, V102, e103, h⟩ := bd2_e h
  obtain ⟨z104, h⟩ := gd_e h
  refine g_callI (pc := 64) (As := [.int 8]) (rest := [rv b (some a94), .int 1, rv b (some r90)]) (st2 := [rv b (some a94), .int 1, rv b (some r90)]) G (c_Ro_init l D ca b k100 e103) (mb_Ro_init G.2.2.2.2.1) (q99 G.2.2.2.2.1) (q135 G.2.2.2.2.1) rfl rfl rfl (Nat.le_of_ble_eq_true rfl) ⟨Nat.le_trans (Nat.le_of_ble_eq_true rfl) hR.1, Nat.le_trans (Nat.le_of_ble_eq_true rfl) hR.2⟩ ⟨Nat.le_trans (Nat.le_of_ble_eq_true rfl) hC.1, Nat.le_trans (Nat.le_of_ble_eq_true rfl) hC.2⟩ (of_decide_eq_true z104) rfl dX6_init_64 ?_
  refine g_widen (sl := 64) (Nat.le_of_ble_eq_true rfl) ?_
  obtain ⟨r107, e106, h⟩ := bd_e h
  have k105 : kd T101 r90 = 13 := by
    obtain ⟨ee, k0⟩ := ck_e e106
    cases ee
    exact k0
  obtain ⟨r110, e109, h⟩ := bd_e h
  have k108 : kd T101 a94 = 4 := by
    obtain ⟨ee, k0⟩ := ck_e e109
    cases ee
    exact k0
  obtain ⟨b111, h⟩ := gd_e h
  obtain ⟨V112, e113, h⟩ := lt_e h
  refine g_aast (pc := 67) G (t0 := 3) k105 (by decide) rfl ci_4 k108 b111 e113 dX6_init_67 ?_
  refine g_iinc (v := 2) (L' := [(1, .int 2), (0, rv b (some this))]) (pc := 68) G dX6_init_68 0 rfl (by decide) (by decide) rfl ?_
  refine g_goto (pc := 71) G 47 dX6_init_71 (by decide) ?_
  refine g_iload_n (pc := 47) G dX6_init_47 0 rfl ?_
  refine g_bipush (pc := 48) G (v := 8) dX6_init_48 (by decide) ?_
  refine g_icmp_ge (pc := 50) G 74 dX6_init_50 (by decide) (fun c114 => absurd c114 (by decide)) (fun c114 => ?_)
  refine g_aload_n (pc := 53) G dX6_init_53 1 rfl ?_
  obtain ⟨r117, e116, h⟩ := bd_e h
  have k115 : kd T101 this = 5 := by
    obtain ⟨ee, k0⟩ := ck_e e116
    cases ee
    exact k0
  obtain ⟨r118, e119, h⟩ := bd_e h
  obtain ⟨f120, k121⟩ := ck_e e119
  refine g_getR (pc := 54) G ci_5 (uw_5 G.2.2.2.2.1) (k := 0) (by decide) rfl rfl k115 (q136 G.2.2.2.2.1) dX6_init_54 f120 ?_
  refine g_iload_n (pc := 57) G dX6_init_57 0 rfl ?_
  obtain ⟨a122, e125, h⟩ := lt_e h
  obtain ⟨T123, e126, h⟩ := lt_e h
  obtain ⟨V124, e127, h⟩ := lt_e h
  refine g_new (pc := 58) G ci_4 (uw_4 G.2.2.2.2.1) df_4 (q133 G.2.2.2.2.1) (q97 G.2.2.2.2.1) (q56 G.2.2.2.2.1) e126 e127 e125 ⟨Nat.le_trans (Nat.le_of_ble_eq_true rfl) hC.1, Nat.le_trans (Nat.le_of_ble_eq_true rfl) hC.2⟩ dX6_init_58 ?_
  have k128 : kd T123 a122 = 4 := by
    rw [← e126, ← e125]
    exact nT_kd _ _ _
  refine g_widen (sl := 66) (Nat.le_of_ble_eq_true rfl) ?_
  refine g_dup (pc := 61) G dX6_init_61 rfl ?_
  refine g_bipush (pc := 62) G (v := 8) dX6_init_62 (by decide) ?_
  obtain ⟨T129, V130, e131, h⟩ := bd2_e h
  obtain ⟨z132, h⟩ := gd_e h
  refine g_callI (pc := 64) (As := [.int 8]) (rest := [rv b (some a122), .int 2, rv b (some r118)]) (st2 := [rv b (some a122), .int 2, rv b (some r118)]) G (c_Ro_init l D ca b k128 e131) (mb_Ro_init G.2.2.2.2.1) (q99 G.2.2.2.2.1) (q135 G.2.2.2.2.1) rfl rfl rfl (Nat.le_of_ble_eq_true rfl) ⟨Nat.le_trans (Nat.le_of_ble_eq_true rfl) hR.1, Nat.le_trans (Nat.le_of_ble_eq_true rfl) hR.2⟩ ⟨Nat.le_trans (Nat.le_of_ble_eq_true rfl) hC.1, Nat.le_trans (Nat.le_of_ble_eq_true rfl) hC.2⟩ (of_decide_eq_true z132) rfl dX6_init_64 ?_
  refine g_widen (sl := 74) (Nat.le_of_ble_eq_true rfl) ?_
  obtain ⟨r135, e134, h⟩ := bd_e h
  have k133 : kd T129 r118 = 13 := by
    obtain ⟨ee, k0⟩ := ck_e e134
    cases ee
    exact k0
  obtain ⟨r138, e137, h⟩ := bd_e h
  have k136 : kd T129 a122 = 4 := by
    obtain ⟨ee, k0⟩ := ck_e e137
    cases ee
    exact k0
  obtain ⟨b139, h⟩ := gd_e h
  obtain ⟨V140, e141, h⟩ := lt_e h
  refine g_aast (pc := 67) G (t0 := 3) k133 (by decide) rfl ci_4 k136 b139 e141 dX6_init_67 ?_
  refine g_iinc (v := 3) (L' := [(1, .int 3), (0, rv b (some this))]) (pc := 68) G dX6_init_68 0 rfl (by decide) (by decide) rfl ?_
  refine g_goto (pc := 71) G 47 dX6_init_71 (by decide) ?_
  refine g_iload_n (pc := 47) G dX6_init_47 0 rfl ?_
  refine g_bipush (pc := 48) G (v := 8) dX6_init_48 (by decide) ?_
  refine g_icmp_ge (pc := 50) G 74 dX6_init_50 (by decide) (fun c142 => absurd c142 (by decide)) (fun c142 => ?_)
  refine g_aload_n (pc := 53) G dX6_init_53 1 rfl ?_
  obtain ⟨r145, e144, h⟩ := bd_e h
  have k143 : kd T129 this = 5 := by
    obtain ⟨ee, k0⟩ := ck_e e144
    cases ee
    exact k0
  obtain ⟨r146, e147, h⟩ := bd_e h
  obtain ⟨f148, k149⟩ := ck_e e147
  refine g_getR (pc := 54) G ci_5 (uw_5 G.2.2.2.2.1) (k := 0) (by decide) rfl rfl k143 (q136 G.2.2.2.2.1) dX6_init_54 f148 ?_
  refine g_iload_n (pc := 57) G dX6_init_57 0 rfl ?_
  obtain ⟨a150, e153, h⟩ := lt_e h
  obtain ⟨T151, e154, h⟩ := lt_e h
  obtain ⟨V152, e155, h⟩ := lt_e h
  refine g_new (pc := 58) G ci_4 (uw_4 G.2.2.2.2.1) df_4 (q133 G.2.2.2.2.1) (q97 G.2.2.2.2.1) (q56 G.2.2.2.2.1) e154 e155 e153 ⟨Nat.le_trans (Nat.le_of_ble_eq_true rfl) hC.1, Nat.le_trans (Nat.le_of_ble_eq_true rfl) hC.2⟩ dX6_init_58 ?_
  have k156 : kd T151 a150 = 4 := by
    rw [← e154, ← e153]
    exact nT_kd _ _ _
  refine g_widen (sl := 76) (Nat.le_of_ble_eq_true rfl) ?_
  refine g_dup (pc := 61) G dX6_init_61 rfl ?_
  refine g_bipush (pc := 62) G (v := 8) dX6_init_62 (by decide) ?_
  obtain ⟨T157, V158, e159, h⟩ := bd2_e h
  obtain ⟨z160, h⟩ := gd_e h
  refine g_callI (pc := 64) (As := [.int 8]) (rest := [rv b (some a150), .int 3, rv b (some r146)]) (st2 := [rv b (some a150), .int 3, rv b (some r146)]) G (c_Ro_init l D ca b k156 e159) (mb_Ro_init G.2.2.2.2.1) (q99 G.2.2.2.2.1) (q135 G.2.2.2.2.1) rfl rfl rfl (Nat.le_of_ble_eq_true rfl) ⟨Nat.le_trans (Nat.le_of_ble_eq_true rfl) hR.1, Nat.le_trans (Nat.le_of_ble_eq_true rfl) hR.2⟩ ⟨Nat.le_trans (Nat.le_of_ble_eq_true rfl) hC.1, Nat.le_trans (Nat.le_of_ble_eq_true rfl) hC.2⟩ (of_decide_eq_true z160) rfl dX6_init_64 ?_
  refine g_widen (sl := 84) (Nat.le_of_ble_eq_true rfl) ?_
  obtain ⟨r163, e162, h⟩ := bd_e h
  have k161 : kd T157 r146 = 13 := by
    obtain ⟨ee, k0⟩ := ck_e e162
    cases ee
    exact k0
  obtain ⟨r166, e165, h⟩ := bd_e h
  have k164 : kd T157 a150 = 4 := by
    obtain ⟨ee, k0⟩ := ck_e e165
    cases ee
    exact k0
  obtain ⟨b167, h⟩ := gd_e h
  obtain ⟨V168, e169, h⟩ := lt_e h
  refine g_aast (pc := 67) G (t0 := 3) k161 (by decide) rfl ci_4 k164 b167 e169 dX6_init_67 ?_
  refine g_iinc (v := 4) (L' := [(1, .int 4), (0, rv b (some this))]) (pc := 68) G dX6_init_68 0 rfl (by decide) (by decide) rfl ?_
  refine g_goto (pc := 71) G 47 dX6_init_71 (by decide) ?_
  refine g_iload_n (pc := 47) G dX6_init_47 0 rfl ?_
  refine g_bipush (pc := 48) G (v := 8) dX6_init_48 (by decide) ?_
  refine g_icmp_ge (pc := 50) G 74 dX6_init_50 (by decide) (fun c170 => absurd c170 (by decide)) (fun c170 => ?_)
  refine g_aload_n (pc := 53) G dX6_init_53 1 rfl ?_
  obtain ⟨r173, e172, h⟩ := bd_e h
  have k171 : kd T157 this = 5 := by
    obtain ⟨ee, k0⟩ := ck_e e172
    cases ee
    exact k0
  obtain ⟨r174, e175, h⟩ := bd_e h
  obtain ⟨f176, k177⟩ := ck_e e175
  refine g_getR (pc := 54) G ci_5 (uw_5 G.2.2.2.2.1) (k := 0) (by decide) rfl rfl k171 (q136 G.2.2.2.2.1) dX6_init_54 f176 ?_
  refine g_iload_n (pc := 57) G dX6_init_57 0 rfl ?_
  obtain ⟨a178, e181, h⟩ := lt_e h
  obtain ⟨T179, e182, h⟩ := lt_e h
  obtain ⟨V180, e183, h⟩ := lt_e h
  refine g_new (pc := 58) G ci_4 (uw_4 G.2.2.2.2.1) df_4 (q133 G.2.2.2.2.1) (q97 G.2.2.2.2.1) (q56 G.2.2.2.2.1) e182 e183 e181 ⟨Nat.le_trans (Nat.le_of_ble_eq_true rfl) hC.1, Nat.le_trans (Nat.le_of_ble_eq_true rfl) hC.2⟩ dX6_init_58 ?_
  have k184 : kd T179 a178 = 4 := by
    rw [← e182, ← e181]
    exact nT_kd _ _ _
  refine g_widen (sl := 86) (Nat.le_of_ble_eq_true rfl) ?_
  refine g_dup (pc := 61) G dX6_init_61 rfl ?_
  refine g_bipush (pc := 62) G (v := 8) dX6_init_62 (by decide) ?_
  obtain ⟨T185, V186, e187, h⟩ := bd2_e h
  obtain ⟨z188, h⟩ := gd_e h
  refine g_callI (pc := 64) (As := [.int 8]) (rest := [rv b (some a178), .int 4, rv b (some r174)]) (st2 := [rv b (some a178), .int 4, rv b (some r174)]) G (c_Ro_init l D ca b k184 e187) (mb_Ro_init G.2.2.2.2.1) (q99 G.2.2.2.2.1) (q135 G.2.2.2.2.1) rfl rfl rfl (Nat.le_of_ble_eq_true rfl) ⟨Nat.le_trans (Nat.le_of_ble_eq_true rfl) hR.1, Nat.le_trans (Nat.le_of_ble_eq_true rfl) hR.2⟩ ⟨Nat.le_trans (Nat.le_of_ble_eq_true rfl) hC.1, Nat.le_trans (Nat.le_of_ble_eq_true rfl) hC.2⟩ (of_decide_eq_true z188) rfl dX6_init_64 ?_
  refine g_widen (sl := 94) (Nat.le_of_ble_eq_true rfl) ?_
  obtain ⟨r191, e190, h⟩ := bd_e h
  have k189 : kd T185 r174 = 13 := by
    obtain ⟨ee, k0⟩ := ck_e e190
    cases ee
    exact k0
  obtain ⟨r194, e193, h⟩ := bd_e h
  have k192 : kd T185 a178 = 4 := by
    obtain ⟨ee, k0⟩ := ck_e e193
    cases ee
    exact k0
  obtain ⟨b195, h⟩ := gd_e h
  obtain ⟨V196, e197, h⟩ := lt_e h
  refine g_aast (pc := 67) G (t0 := 3) k189 (by decide) rfl ci_4 k192 b195 e197 dX6_init_67 ?_
  refine g_iinc (v := 5) (L' := [(1, .int 5), (0, rv b (some this))]) (pc := 68) G dX6_init_68 0 rfl (by decide) (by decide) rfl ?_
  refine g_goto (pc := 71) G 47 dX6_init_71 (by decide) ?_
  refine g_iload_n (pc := 47) G dX6_init_47 0 rfl ?_
  refine g_bipush (pc := 48) G (v := 8) dX6_init_48 (by decide) ?_
  refine g_icmp_ge (pc := 50) G 74 dX6_init_50 (by decide) (fun c198 => absurd c198 (by decide)) (fun c198 => ?_)
  refine g_aload_n (pc := 53) G dX6_init_53 1 rfl ?_
  obtain ⟨r201, e200, h⟩ := bd_e h
  have k199 : kd T185 this = 5 := by
    obtain ⟨ee, k0⟩ := ck_e e200
    cases ee
    exact k0
  obtain ⟨r202, e203, h⟩ := bd_e h
  obtain ⟨f204, k205⟩ := ck_e e203
  refine g_getR (pc := 54) G ci_5 (uw_5 G.2.2.2.2.1) (k := 0) (by decide) rfl rfl k199 (q136 G.2.2.2.2.1) dX6_init_54 f204 ?_
  refine g_iload_n (pc := 57) G dX6_init_57 0 rfl ?_
  obtain ⟨a206, e209, h⟩ := lt_e h
  obtain ⟨T207, e210, h⟩ := lt_e h
  obtain ⟨V208, e211, h⟩ := lt_e h
  refine g_new (pc := 58) G ci_4 (uw_4 G.2.2.2.2.1) df_4 (q133 G.2.2.2.2.1) (q97 G.2.2.2.2.1) (q56 G.2.2.2.2.1) e210 e211 e209 ⟨Nat.le_trans (Nat.le_of_ble_eq_true rfl) hC.1, Nat.le_trans (Nat.le_of_ble_eq_true rfl) hC.2⟩ dX6_init_58 ?_
  have k212 : kd T207 a206 = 4 := by
    rw [← e210, ← e209]
    exact nT_kd _ _ _
  refine g_widen (sl := 96) (Nat.le_of_ble_eq_true rfl) ?_
  refine g_dup (pc := 61) G dX6_init_61 rfl ?_
  refine g_bipush (pc := 62) G (v := 8) dX6_init_62 (by decide) ?_
  obtain ⟨T213, V214, e215, h⟩ := bd2_e h
  obtain ⟨z216, h⟩ := gd_e h
  refine g_callI (pc := 64) (As := [.int 8]) (rest := [rv b (some a206), .int 5, rv b (some r202)]) (st2 := [rv b (some a206), .int 5, rv b (some r202)]) G (c_Ro_init l D ca b k212 e215) (mb_Ro_init G.2.2.2.2.1) (q99 G.2.2.2.2.1) (q135 G.2.2.2.2.1) rfl rfl rfl (Nat.le_of_ble_eq_true rfl) ⟨Nat.le_trans (Nat.le_of_ble_eq_true rfl) hR.1, Nat.le_trans (Nat.le_of_ble_eq_true rfl) hR.2⟩ ⟨Nat.le_trans (Nat.le_of_ble_eq_true rfl) hC.1, Nat.le_trans (Nat.le_of_ble_eq_true rfl) hC.2⟩ (of_decide_eq_true z216) rfl dX6_init_64 ?_
  refine g_widen (sl := 104) (Nat.le_of_ble_eq_true rfl) ?_
  obtain ⟨r219, e218, h⟩ := bd_e h
  have k217 : kd T213 r202 = 13 := by
    obtain ⟨ee, k0⟩ := ck_e e218
    cases ee
    exact k0
  obtain ⟨r222, e221, h⟩ := bd_e h
  have k220 : kd T213 a206 = 4 := by
    obtain ⟨ee, k0⟩ := ck_e e221
    cases ee
    exact k0
  obtain ⟨b223, h⟩ := gd_e h
  obtain ⟨V224, e225, h⟩ := lt_e h
  refine g_aast (pc := 67) G (t0 := 3) k217 (by decide) rfl ci_4 k220 b223 e225 dX6_init_67 ?_
  refine g_iinc (v := 6) (L' := [(1, .int 6), (0, rv b (some this))]) (pc := 68) G dX6_init_68 0 rfl (by decide) (by decide) rfl ?_
  refine g_goto (pc := 71) G 47 dX6_init_71 (by decide) ?_
  refine g_iload_n (pc := 47) G dX6_init_47 0 rfl ?_
  refine g_bipush (pc := 48) G (v := 8) dX6_init_48 (by decide) ?_
  refine g_icmp_ge (pc := 50) G 74 dX6_init_50 (by decide) (fun c226 => absurd c226 (by decide)) (fun c226 => ?_)
  refine g_aload_n (pc := 53) G dX6_init_53 1 rfl ?_
  obtain ⟨r229, e228, h⟩ := bd_e h
  have k227 : kd T213 this = 5 := by
    obtain ⟨ee, k0⟩ := ck_e e228
    cases ee
    exact k0
  obtain ⟨r230, e231, h⟩ := bd_e h
  obtain ⟨f232, k233⟩ := ck_e e231
  refine g_getR (pc := 54) G ci_5 (uw_5 G.2.2.2.2.1) (k := 0) (by decide) rfl rfl k227 (q136 G.2.2.2.2.1) dX6_init_54 f232 ?_
  refine g_iload_n (pc := 57) G dX6_init_57 0 rfl ?_
  obtain ⟨a234, e237, h⟩ := lt_e h
  obtain ⟨T235, e238, h⟩ := lt_e h
  obtain ⟨V236, e239, h⟩ := lt_e h
  refine g_new (pc := 58) G ci_4 (uw_4 G.2.2.2.2.1) df_4 (q133 G.2.2.2.2.1) (q97 G.2.2.2.2.1) (q56 G.2.2.2.2.1) e238 e239 e237 ⟨Nat.le_trans (Nat.le_of_ble_eq_true rfl) hC.1, Nat.le_trans (Nat.le_of_ble_eq_true rfl) hC.2⟩ dX6_init_58 ?_
  have k240 : kd T235 a234 = 4 := by
    rw [← e238, ← e237]
    exact nT_kd _ _ _
  refine g_widen (sl := 106) (Nat.le_of_ble_eq_true rfl) ?_
  refine g_dup (pc := 61) G dX6_init_61 rfl ?_
  refine g_bipush (pc := 62) G (v := 8) dX6_init_62 (by decide) ?_
  obtain ⟨T241, V242, e243, h⟩ := bd2_e h
  obtain ⟨z244, h⟩ := gd_e h
  refine g_callI (pc := 64) (As := [.int 8]) (rest := [rv b (some a234), .int 6, rv b (some r230)]) (st2 := [rv b (some a234), .int 6, rv b (some r230)]) G (c_Ro_init l D ca b k240 e243) (mb_Ro_init G.2.2.2.2.1) (q99 G.2.2.2.2.1) (q135 G.2.2.2.2.1) rfl rfl rfl (Nat.le_of_ble_eq_true rfl) ⟨Nat.le_trans (Nat.le_of_ble_eq_true rfl) hR.1, Nat.le_trans (Nat.le_of_ble_eq_true rfl) hR.2⟩ ⟨Nat.le_trans (Nat.le_of_ble_eq_true rfl) hC.1, Nat.le_trans (Nat.le_of_ble_eq_true rfl) hC.2⟩ (of_decide_eq_true z244) rfl dX6_init_64 ?_
  refine g_widen (sl := 114) (Nat.le_of_ble_eq_true rfl) ?_
  obtain ⟨r247, e246, h⟩ := bd_e h
  have k245 : kd T241 r230 = 13 := by
    obtain ⟨ee, k0⟩ := ck_e e246
    cases ee
    exact k0
  obtain ⟨r250, e249, h⟩ := bd_e h
  have k248 : kd T241 a234 = 4 := by
    obtain ⟨ee, k0⟩ := ck_e e249
    cases ee
    exact k0
  obtain ⟨b251, h⟩ := gd_e h
  obtain ⟨V252, e253, h⟩ := lt_e h
  refine g_aast (pc := 67) G (t0 := 3) k245 (by decide) rfl ci_4 k248 b251 e253 dX6_init_67 ?_
  refine g_iinc (v := 7) (L' := [(1, .int 7), (0, rv b (some this))]) (pc := 68) G dX6_init_68 0 rfl (by decide) (by decide) rfl ?_
  refine g_goto (pc := 71) G 47 dX6_init_71 (by decide) ?_
  refine g_iload_n (pc := 47) G dX6_init_47 0 rfl ?_
  refine g_bipush (pc := 48) G (v := 8) dX6_init_48 (by decide) ?_
  refine g_icmp_ge (pc := 50) G 74 dX6_init_50 (by decide) (fun c254 => absurd c254 (by decide)) (fun c254 => ?_)
  refine g_aload_n (pc := 53) G dX6_init_53 1 rfl ?_
  obtain ⟨r257, e256, h⟩ := bd_e h
  have k255 : kd T241 this = 5 := by
    obtain ⟨ee, k0⟩ := ck_e e256
    cases ee
    exact k0
  obtain ⟨r258, e259, h⟩ := bd_e h
  obtain ⟨f260, k261⟩ := ck_e e259
  refine g_getR (pc := 54) G ci_5 (uw_5 G.2.2.2.2.1) (k := 0) (by decide) rfl rfl k255 (q136 G.2.2.2.2.1) dX6_init_54 f260 ?_
  refine g_iload_n (pc := 57) G dX6_init_57 0 rfl ?_
  obtain ⟨a262, e265, h⟩ := lt_e h
  obtain ⟨T263, e266, h⟩ := lt_e h
  obtain ⟨V264, e267, h⟩ := lt_e h
  refine g_new (pc := 58) G ci_4 (uw_4 G.2.2.2.2.1) df_4 (q133 G.2.2.2.2.1) (q97 G.2.2.2.2.1) (q56 G.2.2.2.2.1) e266 e267 e265 ⟨Nat.le_trans (Nat.le_of_ble_eq_true rfl) hC.1, Nat.le_trans (Nat.le_of_ble_eq_true rfl) hC.2⟩ dX6_init_58 ?_
  have k268 : kd T263 a262 = 4 := by
    rw [← e266, ← e265]
    exact nT_kd _ _ _
  refine g_widen (sl := 116) (Nat.le_of_ble_eq_true rfl) ?_
  refine g_dup (pc := 61) G dX6_init_61 rfl ?_
  refine g_bipush (pc := 62) G (v := 8) dX6_init_62 (by decide) ?_
  obtain ⟨T269, V270, e271, h⟩ := bd2_e h
  obtain ⟨z272, h⟩ := gd_e h
  refine g_callI (pc := 64) (As := [.int 8]) (rest := [rv b (some a262), .int 7, rv b (some r258)]) (st2 := [rv b (some a262), .int 7, rv b (some r258)]) G (c_Ro_init l D ca b k268 e271) (mb_Ro_init G.2.2.2.2.1) (q99 G.2.2.2.2.1) (q135 G.2.2.2.2.1) rfl rfl rfl (Nat.le_of_ble_eq_true rfl) ⟨Nat.le_trans (Nat.le_of_ble_eq_true rfl) hR.1, Nat.le_trans (Nat.le_of_ble_eq_true rfl) hR.2⟩ ⟨Nat.le_trans (Nat.le_of_ble_eq_true rfl) hC.1, Nat.le_trans (Nat.le_of_ble_eq_true rfl) hC.2⟩ (of_decide_eq_true z272) rfl dX6_init_64 ?_
  refine g_widen (sl := 124) (Nat.le_of_ble_eq_true rfl) ?_
  obtain ⟨r275, e274, h⟩ := bd_e h
  have k273 : kd T269 r258 = 13 := by
    obtain ⟨ee, k0⟩ := ck_e e274
    cases ee
    exact k0
  obtain ⟨r278, e277, h⟩ := bd_e h
  have k276 : kd T269 a262 = 4 := by
    obtain ⟨ee, k0⟩ := ck_e e277
    cases ee
    exact k0
  obtain ⟨b279, h⟩ := gd_e h
  obtain ⟨V280, e281, h⟩ := lt_e h
  refine g_aast (pc := 67) G (t0 := 3) k273 (by decide) rfl ci_4 k276 b279 e281 dX6_init_67 ?_
  refine g_iinc (v := 8) (L' := [(1, .int 8), (0, rv b (some this))]) (pc := 68) G dX6_init_68 0 rfl (by decide) (by decide) rfl ?_
  refine g_goto (pc := 71) G 47 dX6_init_71 (by decide) ?_
  refine g_iload_n (pc := 47) G dX6_init_47 0 rfl ?_
  refine g_bipush (pc := 48) G (v := 8) dX6_init_48 (by decide) ?_
  refine g_icmp_ge (pc := 50) G 74 dX6_init_50 (by decide) (fun c282 => ?_) (fun c282 => absurd (by decide) c282)
  cases h
  exact g_vret (pc := 74) G dX6_init_74
theorem c_Sc_init (l : Launch) (D : va_G) (ca : Nat → ClassId) (b : Nat) {T : Tx} {V : Vx} {this : Nat} {Tf : Tx} {Vf : Vx} (k_this : kd T this = 5) (h : Sc_init T V this = some (Tf, Vf)) : MG l yX6_init cX6_init 2 (Option.none : Option Jvm.ClassFile.FieldType) 2 42 21 124 D ca b [rv b (some this)] T V none Tf Vf :=
  MG.ofWG (L := [(0, rv b (some this))]) (by decide +kernel) rfl (Nat.le_of_ble_eq_true rfl) (fun _ _ _ _ _ _ _ G _ => w_Sc_init G ⟨Nat.le_refl _, Nat.le_refl _⟩ ⟨Nat.le_refl _, Nat.le_refl _⟩ k_this h)

set_option maxHeartbeats 4000000 in
set_option maxRecDepth 100000 in
theorem w_Mo_init {p : Program} {l : Launch} {e : Env} {R : Room} {s : State} {m : MethodId} {args : Array Value} {below : List Frame} {meth : Method} {c : Code} {D : va_G} {ca : Nat → ClassId} {b : Nat} {T : Tx} {V : Vx} (G : GX p s m meth c cX10_init 1 (Option.none : Option Jvm.ClassFile.FieldType) RX10 "<init>" D ca b) (hR : 1 ≤ R.frames ∧ 28 ≤ R.locals) {this : Nat} (hC : 15 ≤ R.cells ∧ 14193 ≤ R.slots) {Tf : Tx} {Vf : Vx} (k_this : kd T this = 9) (h : Mo_init T V this = some (Tf, Vf)) : WG p l e R s m args below meth c D ca b 1 (QG D ca b none Tf Vf below args s 15 14193) 0 0 T V 0 [(0, rv b (some this))] [] := by
  unfold Mo_init at h
  refine g_aload_n (pc := 0) G dX10_init_0 0 rfl ?_
  refine g_objInit (pc := 1) G (q761 G.2.2.2.2.1) (q77 G.2.2.2.2.1) (q_objc G.2.2.2.2.1) dX10_init_1 ⟨Nat.le_trans (Nat.le_of_ble_eq_true rfl) hR.1, Nat.le_trans (Nat.le_of_ble_eq_true rfl) hR.2⟩ ?_
  refine g_aload_n (pc := 4) G dX10_init_4 0 rfl ?_
  refine g_sipush (pc := 5) G (v := 200) dX10_init_5 (by decide) ?_
  obtain ⟨a1, e4, h⟩ := lt_e h
  obtain ⟨T2, e5, h⟩ := lt_e h
  obtain ⟨V3, e6, h⟩ := lt_e h
  refine g_newaI (pc := 8) G (q110 G.2.2.2.2.1) (N := 200) (by decide) (by decide) (Nat.le_of_ble_eq_true rfl) e5 e6 e4 ⟨Nat.le_trans (Nat.le_of_ble_eq_true rfl) hC.1, Nat.le_trans (Nat.le_of_ble_eq_true rfl) hC.2⟩ dX10_init_8 ?_
  have k7 : kd T2 a1 = 11 := by
    rw [← e5, ← e4]
    exact nT_kd _ _ _
  refine g_widen (sl := 200) (Nat.le_of_ble_eq_true rfl) ?_
  obtain ⟨r10, e9, h⟩ := bd_e h
  have k8 : kd T2 this = 9 := by
    obtain ⟨ee, k0⟩ := ck_e e9
    cases ee
    exact k0
  obtain ⟨V11, e12, h⟩ := lt_e h
  refine g_putRF (pc := 10) G ci_9 (uw_9 G.2.2.2.2.1) (k := 1) (by decide) rfl rfl k8 rfl rfl rfl (fun _ => ⟨rfl, rfl⟩) (q775 G.2.2.2.2.1) e12 dX10_init_10 ?_
  refine g_aload_n (pc := 13) G dX10_init_13 0 rfl ?_
  refine g_sipush (pc := 14) G (v := 167) dX10_init_14 (by decide) ?_
  obtain ⟨a13, e16, h⟩ := lt_e h
  obtain ⟨T14, e17, h⟩ := lt_e h
  obtain ⟨V15, e18, h⟩ := lt_e h
  refine g_newaI (pc := 17) G (q110 G.2.2.2.2.1) (N := 167) (by decide) (by decide) (Nat.le_of_ble_eq_true rfl) e17 e18 e16 ⟨Nat.le_trans (Nat.le_of_ble_eq_true rfl) hC.1, Nat.le_trans (Nat.le_of_ble_eq_true rfl) hC.2⟩ dX10_init_17 ?_
  have k19 : kd T14 a13 = 11 := by
    rw [← e17, ← e16]
    exact nT_kd _ _ _
  refine g_widen (sl := 367) (Nat.le_of_ble_eq_true rfl) ?_
  obtain ⟨r22, e21, h⟩ := bd_e h
  have k20 : kd T14 this = 9 := by
    obtain ⟨ee, k0⟩ := ck_e e21
    cases ee
    exact k0
  obtain ⟨V23, e24, h⟩ := lt_e h
  refine g_putRF (pc := 19) G ci_9 (uw_9 G.2.2.2.2.1) (k := 3) (by decide) rfl rfl k20 rfl rfl rfl (fun _ => ⟨rfl, rfl⟩) (q777 G.2.2.2.2.1) e24 dX10_init_19 ?_
  refine g_aload_n (pc := 22) G dX10_init_22 0 rfl ?_
  refine g_sipush (pc := 23) G (v := 167) dX10_init_23 (by decide) ?_
  obtain ⟨a25, e28, h⟩ := lt_e h
  obtain ⟨T26, e29, h⟩ := lt_e h
  obtain ⟨V27, e30, h⟩ := lt_e h
  refine g_newaI (pc := 26) G (q110 G.2.2.2.2.1) (N := 167) (by decide) (by decide) (Nat.le_of_ble_eq_true rfl) e29 e30 e28 ⟨Nat.le_trans (Nat.le_of_ble_eq_true rfl) hC.1, Nat.le_trans (Nat.le_of_ble_eq_true rfl) hC.2⟩ dX10_init_26 ?_
  have k31 : kd T26 a25 = 11 := by
    rw [← e29, ← e28]
    exact nT_kd _ _ _
  refine g_widen (sl := 534) (Nat.le_of_ble_eq_true rfl) ?_
  obtain ⟨r34, e33, h⟩ := bd_e h
  have k32 : kd T26 this = 9 := by
    obtain ⟨ee, k0⟩ := ck_e e33
    cases ee
    exact k0
  obtain ⟨V35, e36, h⟩ := lt_e h
  refine g_putRF (pc := 28) G ci_9 (uw_9 G.2.2.2.2.1) (k := 4) (by decide) rfl rfl k32 rfl rfl rfl (fun _ => ⟨rfl, rfl⟩) (q778 G.2.2.2.2.1) e36 dX10_init_28 ?_
  refine g_aload_n (pc := 31) G dX10_init_31 0 rfl ?_
  refine g_bipush (pc := 32) G (v := 19) dX10_init_32 (by decide) ?_
  obtain ⟨a37, e40, h⟩ := lt_e h
  obtain ⟨T38, e41, h⟩ := lt_e h
  obtain ⟨V39, e42, h⟩ := lt_e h
  refine g_newaI (pc := 34) G (q110 G.2.2.2.2.1) (N := 19) (by decide) (by decide) (Nat.le_of_ble_eq_true rfl) e41 e42 e40 ⟨Nat.le_trans (Nat.le_of_ble_eq_true rfl) hC.1, Nat.le_trans (Nat.le_of_ble_eq_true rfl) hC.2⟩ dX10_init_34 ?_
  have k43 : kd T38 a37 = 11 := by
    rw [← e41, ← e40]
    exact nT_kd _ _ _
  refine g_widen (sl := 553) (Nat.le_of_ble_eq_true rfl) ?_
  obtain ⟨r46, e45, h⟩ := bd_e h
  have k44 : kd T38 this = 9 := by
    obtain ⟨ee, k0⟩ := ck_e e45
    cases ee
    exact k0
  obtain ⟨V47, e48, h⟩ := lt_e h
  refine g_putRF (pc := 36) G ci_9 (uw_9 G.2.2.2.2.1) (k := 5) (by decide) rfl rfl k44 rfl rfl rfl (fun _ => ⟨rfl, rfl⟩) (q779 G.2.2.2.2.1) e48 dX10_init_36 ?_
  refine g_aload_n (pc := 39) G dX10_init_39 0 rfl ?_
  refine g_bipush (pc := 40) G (v := 114) dX10_init_40 (by decide) ?_
  obtain ⟨a49, e52, h⟩ := lt_e h
  obtain ⟨T50, e53, h⟩ := lt_e h
  obtain ⟨V51, e54, h⟩ := lt_e h
  refine g_newaI (pc := 42) G (q110 G.2.2.2.2.1) (N := 114) (by decide) (by decide) (Nat.le_of_ble_eq_true rfl) e53 e54 e52 ⟨Nat.le_trans (Nat.le_of_ble_eq_true rfl) hC.1, Nat.le_trans (Nat.le_of_ble_eq_true rfl) hC.2⟩ dX10_init_42 ?_
  have k55 : kd T50 a49 = 11 := by
    rw [← e53, ← e52]
    exact nT_kd _ _ _
  refine g_widen (sl := 667) (Nat.le_of_ble_eq_true rfl) ?_
  obtain ⟨r58, e57, h⟩ := bd_e h
  have k56 : kd T50 this = 9 := by
    obtain ⟨ee, k0⟩ := ck_e e57
    cases ee
    exact k0
  obtain ⟨V59, e60, h⟩ := lt_e h
  refine g_putRF (pc := 44) G ci_9 (uw_9 G.2.2.2.2.1) (k := 6) (by decide) rfl rfl k56 rfl rfl rfl (fun _ => ⟨rfl, rfl⟩) (q780 G.2.2.2.2.1) e60 dX10_init_44 ?_
  refine g_aload_n (pc := 47) G dX10_init_47 0 rfl ?_
  refine g_sipush (pc := 48) G (v := 512) dX10_init_48 (by decide) ?_
  obtain ⟨a61, e64, h⟩ := lt_e h
  obtain ⟨T62, e65, h⟩ := lt_e h
  obtain ⟨V63, e66, h⟩ := lt_e h
  refine g_newaI (pc := 51) G (q110 G.2.2.2.2.1) (N := 512) (by decide) (by decide) (Nat.le_of_ble_eq_true rfl) e65 e66 e64 ⟨Nat.le_trans (Nat.le_of_ble_eq_true rfl) hC.1, Nat.le_trans (Nat.le_of_ble_eq_true rfl) hC.2⟩ dX10_init_51 ?_
  have k67 : kd T62 a61 = 11 := by
    rw [← e65, ← e64]
    exact nT_kd _ _ _
  refine g_widen (sl := 1179) (Nat.le_of_ble_eq_true rfl) ?_
  obtain ⟨r70, e69, h⟩ := bd_e h
  have k68 : kd T62 this = 9 := by
    obtain ⟨ee, k0⟩ := ck_e e69
    cases ee
    exact k0
  obtain ⟨V71, e72, h⟩ := lt_e h
  refine g_putRF (pc := 53) G ci_9 (uw_9 G.2.2.2.2.1) (k := 8) (by decide) rfl rfl k68 rfl rfl rfl (fun _ => ⟨rfl, rfl⟩) (q782 G.2.2.2.2.1) e72 dX10_init_53 ?_
  refine g_aload_n (pc := 56) G dX10_init_56 0 rfl ?_
  refine g_sipush (pc := 57) G (v := 512) dX10_init_57 (by decide) ?_
  obtain ⟨a73, e76, h⟩ := lt_e h
  obtain ⟨T74, e77, h⟩ := lt_e h
  obtain ⟨V75, e78, h⟩ := lt_e h
  refine g_newaI (pc := 60) G (q110 G.2.2.2.2.1) (N := 512) (by decide) (by decide) (Nat.le_of_ble_eq_true rfl) e77 e78 e76 ⟨Nat.le_trans (Nat.le_of_ble_eq_true rfl) hC.1, Nat.le_trans (Nat.le_of_ble_eq_true rfl) hC.2⟩ dX10_init_60 ?_
  have k79 : kd T74 a73 = 11 := by
    rw [← e77, ← e76]
    exact nT_kd _ _ _
  refine g_widen (sl := 1691) (Nat.le_of_ble_eq_true rfl) ?_
  obtain ⟨r82, e81, h⟩ := bd_e h
  have k80 : kd T74 this = 9 := by
    obtain ⟨ee, k0⟩ := ck_e e81
    cases ee
    exact k0
  obtain ⟨V83, e84, h⟩ := lt_e h
  refine g_putRF (pc := 62) G ci_9 (uw_9 G.2.2.2.2.1) (k := 9) (by decide) rfl rfl k80 rfl rfl rfl (fun _ => ⟨rfl, rfl⟩) (q783 G.2.2.2.2.1) e84 dX10_init_62 ?_
  refine g_aload_n (pc := 65) G dX10_init_65 0 rfl ?_
  refine g_sipush (pc := 66) G (v := 6144) dX10_init_66 (by decide) ?_
  obtain ⟨a85, e88, h⟩ := lt_e h
  obtain ⟨T86, e89, h⟩ := lt_e h
  obtain ⟨V87, e90, h⟩ := lt_e h
  refine g_newaI (pc := 69) G (q110 G.2.2.2.2.1) (N := 6144) (by decide) (by decide) (Nat.le_of_ble_eq_true rfl) e89 e90 e88 ⟨Nat.le_trans (Nat.le_of_ble_eq_true rfl) hC.1, Nat.le_trans (Nat.le_of_ble_eq_true rfl) hC.2⟩ dX10_init_69 ?_
  have k91 : kd T86 a85 = 11 := by
    rw [← e89, ← e88]
    exact nT_kd _ _ _
  refine g_widen (sl := 7835) (Nat.le_of_ble_eq_true rfl) ?_
  obtain ⟨r94, e93, h⟩ := bd_e h
  have k92 : kd T86 this = 9 := by
    obtain ⟨ee, k0⟩ := ck_e e93
    cases ee
    exact k0
  obtain ⟨V95, e96, h⟩ := lt_e h
  refine g_putRF (pc := 71) G ci_9 (uw_9 G.2.2.2.2.1) (k := 10) (by decide) rfl rfl k92 rfl rfl rfl (fun _ => ⟨rfl, rfl⟩) (q784 G.2.2.2.2.1) e96 dX10_init_71 ?_
  refine g_aload_n (pc := 74) G dX10_init_74 0 rfl ?_
  refine g_sipush (pc := 75) G (v := 5120) dX10_init_75 (by decide) ?_
  obtain ⟨a97, e100, h⟩ := lt_e h
  obtain ⟨T98, e101, h⟩ := lt_e h
  obtain ⟨V99, e102, h⟩ := lt_e h
  refine g_newaI (pc := 78) G (q110 G.2.2.2.2.1) (N := 5120) (by decide) (by decide) (Nat.le_of_ble_eq_true rfl) e101 e102 e100 ⟨Nat.le_trans (Nat.le_of_ble_eq_true rfl) hC.1, Nat.le_trans (Nat.le_of_ble_eq_true rfl) hC.2⟩ dX10_init_78 ?_
  have k103 : kd T98 a97 = 11 := by
    rw [← e101, ← e100]
    exact nT_kd _ _ _
  refine g_widen (sl := 12955) (Nat.le_of_ble_eq_true rfl) ?_
  obtain ⟨r106, e105, h⟩ := bd_e h
  have k104 : kd T98 this = 9 := by
    obtain ⟨ee, k0⟩ := ck_e e105
    cases ee
    exact k0
  obtain ⟨V107, e108, h⟩ := lt_e h
  refine g_putRF (pc := 80) G ci_9 (uw_9 G.2.2.2.2.1) (k := 12) (by decide) rfl rfl k104 rfl rfl rfl (fun _ => ⟨rfl, rfl⟩) (q786 G.2.2.2.2.1) e108 dX10_init_80 ?_
  refine g_aload_n (pc := 83) G dX10_init_83 0 rfl ?_
  refine g_bipush (pc := 84) G (v := 10) dX10_init_84 (by decide) ?_
  obtain ⟨a109, e112, h⟩ := lt_e h
  obtain ⟨T110, e113, h⟩ := lt_e h
  obtain ⟨V111, e114, h⟩ := lt_e h
  refine g_newaI (pc := 86) G (q110 G.2.2.2.2.1) (N := 10) (by decide) (by decide) (Nat.le_of_ble_eq_true rfl) e113 e114 e112 ⟨Nat.le_trans (Nat.le_of_ble_eq_true rfl) hC.1, Nat.le_trans (Nat.le_of_ble_eq_true rfl) hC.2⟩ dX10_init_86 ?_
  have k115 : kd T110 a109 = 11 := by
    rw [← e113, ← e112]
    exact nT_kd _ _ _
  refine g_widen (sl := 12965) (Nat.le_of_ble_eq_true rfl) ?_
  obtain ⟨r118, e117, h⟩ := bd_e h
  have k116 : kd T110 this = 9 := by
    obtain ⟨ee, k0⟩ := ck_e e117
    cases ee
    exact k0
  obtain ⟨V119, e120, h⟩ := lt_e h
  refine g_putRF (pc := 88) G ci_9 (uw_9 G.2.2.2.2.1) (k := 13) (by decide) rfl rfl k116 rfl rfl rfl (fun _ => ⟨rfl, rfl⟩) (q787 G.2.2.2.2.1) e120 dX10_init_88 ?_
  refine g_aload_n (pc := 91) G dX10_init_91 0 rfl ?_
  refine g_bipush (pc := 92) G (v := 10) dX10_init_92 (by decide) ?_
  obtain ⟨a121, e124, h⟩ := lt_e h
  obtain ⟨T122, e125, h⟩ := lt_e h
  obtain ⟨V123, e126, h⟩ := lt_e h
  refine g_newaI (pc := 94) G (q110 G.2.2.2.2.1) (N := 10) (by decide) (by decide) (Nat.le_of_ble_eq_true rfl) e125 e126 e124 ⟨Nat.le_trans (Nat.le_of_ble_eq_true rfl) hC.1, Nat.le_trans (Nat.le_of_ble_eq_true rfl) hC.2⟩ dX10_init_94 ?_
  have k127 : kd T122 a121 = 11 := by
    rw [← e125, ← e124]
    exact nT_kd _ _ _
  refine g_widen (sl := 12975) (Nat.le_of_ble_eq_true rfl) ?_
  obtain ⟨r130, e129, h⟩ := bd_e h
  have k128 : kd T122 this = 9 := by
    obtain ⟨ee, k0⟩ := ck_e e129
    cases ee
    exact k0
  obtain ⟨V131, e132, h⟩ := lt_e h
  refine g_putRF (pc := 96) G ci_9 (uw_9 G.2.2.2.2.1) (k := 15) (by decide) rfl rfl k128 rfl rfl rfl (fun _ => ⟨rfl, rfl⟩) (q789 G.2.2.2.2.1) e132 dX10_init_96 ?_
  refine g_aload_n (pc := 99) G dX10_init_99 0 rfl ?_
  refine g_sipush (pc := 100) G (v := 1024) dX10_init_100 (by decide) ?_
  obtain ⟨a133, e136, h⟩ := lt_e h
  obtain ⟨T134, e137, h⟩ := lt_e h
  obtain ⟨V135, e138, h⟩ := lt_e h
  refine g_newaJ (pc := 103) G (q155 G.2.2.2.2.1) (N := 1024) (by decide) (by decide) (Nat.le_of_ble_eq_true rfl) e137 e138 e136 ⟨Nat.le_trans (Nat.le_of_ble_eq_true rfl) hC.1, Nat.le_trans (Nat.le_of_ble_eq_true rfl) hC.2⟩ dX10_init_103 ?_
  have k139 : kd T134 a133 = 12 := by
    rw [← e137, ← e136]
    exact nT_kd _ _ _
  refine g_widen (sl := 13999) (Nat.le_of_ble_eq_true rfl) ?_
  obtain ⟨r142, e141, h⟩ := bd_e h
  have k140 : kd T134 this = 9 := by
    obtain ⟨ee, k0⟩ := ck_e e141
    cases ee
    exact k0
  obtain ⟨V143, e144, h⟩ := lt_e h
  refine g_putRF (pc := 105) G ci_9 (uw_9 G.2.2.2.2.1) (k := 16) (by decide) rfl rfl k140 rfl rfl rfl (fun _ => ⟨rfl, rfl⟩) (q790 G.2.2.2.2.1) e144 dX10_init_105 ?_
  refine g_aload_n (pc := 108) G dX10_init_108 0 rfl ?_
  refine g_bipush (pc := 109) G (v := 17) dX10_init_109 (by decide) ?_
  obtain ⟨a145, e148, h⟩ := lt_e h
  obtain ⟨T146, e149, h⟩ := lt_e h
  obtain ⟨V147, e150, h⟩ := lt_e h
  refine g_newaI (pc := 111) G (q110 G.2.2.2.2.1) (N := 17) (by decide) (by decide) (Nat.le_of_ble_eq_true rfl) e149 e150 e148 ⟨Nat.le_trans (Nat.le_of_ble_eq_true rfl) hC.1, Nat.le_trans (Nat.le_of_ble_eq_true rfl) hC.2⟩ dX10_init_111 ?_
  have k151 : kd T146 a145 = 11 := by
    rw [← e149, ← e148]
    exact nT_kd _ _ _
  refine g_widen (sl := 14016) (Nat.le_of_ble_eq_true rfl) ?_
  obtain ⟨r154, e153, h⟩ := bd_e h
  have k152 : kd T146 this = 9 := by
    obtain ⟨ee, k0⟩ := ck_e e153
    cases ee
    exact k0
  obtain ⟨V155, e156, h⟩ := lt_e h
  refine g_putRF (pc := 113) G ci_9 (uw_9 G.2.2.2.2.1) (k := 17) (by decide) rfl rfl k152 rfl rfl rfl (fun _ => ⟨rfl, rfl⟩) (q791 G.2.2.2.2.1) e156 dX10_init_113 ?_
  refine g_aload_n (pc := 116) G dX10_init_116 0 rfl ?_
  refine g_bipush (pc := 117) G (v := 17) dX10_init_117 (by decide) ?_
  obtain ⟨a157, e160, h⟩ := lt_e h
  obtain ⟨T158, e161, h⟩ := lt_e h
  obtain ⟨V159, e162, h⟩ := lt_e h
  refine g_newaJ (pc := 119) G (q155 G.2.2.2.2.1) (N := 17) (by decide) (by decide) (Nat.le_of_ble_eq_true rfl) e161 e162 e160 ⟨Nat.le_trans (Nat.le_of_ble_eq_true rfl) hC.1, Nat.le_trans (Nat.le_of_ble_eq_true rfl) hC.2⟩ dX10_init_119 ?_
  have k163 : kd T158 a157 = 12 := by
    rw [← e161, ← e160]
    exact nT_kd _ _ _
  refine g_widen (sl := 14033) (Nat.le_of_ble_eq_true rfl) ?_
  obtain ⟨r166, e165, h⟩ := bd_e h
  have k164 : kd T158 this = 9 := by
    obtain ⟨ee, k0⟩ := ck_e e165
    cases ee
    exact k0
  obtain ⟨V167, e168, h⟩ := lt_e h
  refine g_putRF (pc := 121) G ci_9 (uw_9 G.2.2.2.2.1) (k := 18) (by decide) rfl rfl k164 rfl rfl rfl (fun _ => ⟨rfl, rfl⟩) (q792 G.2.2.2.2.1) e168 dX10_init_121 ?_
  refine g_aload_n (pc := 124) G dX10_init_124 0 rfl ?_
  refine g_sipush (pc := 125) G (v := 160) dX10_init_125 (by decide) ?_
  obtain ⟨a169, e172, h⟩ := lt_e h
  obtain ⟨T170, e173, h⟩ := lt_e h
  obtain ⟨V171, e174, h⟩ := lt_e h
  refine g_newaI (pc := 128) G (q110 G.2.2.2.2.1) (N := 160) (by decide) (by decide) (Nat.le_of_ble_eq_true rfl) e173 e174 e172 ⟨Nat.le_trans (Nat.le_of_ble_eq_true rfl) hC.1, Nat.le_trans (Nat.le_of_ble_eq_true rfl) hC.2⟩ dX10_init_128 ?_
  have k175 : kd T170 a169 = 11 := by
    rw [← e173, ← e172]
    exact nT_kd _ _ _
  refine g_widen (sl := 14193) (Nat.le_of_ble_eq_true rfl) ?_
  obtain ⟨r178, e177, h⟩ := bd_e h
  have k176 : kd T170 this = 9 := by
    obtain ⟨ee, k0⟩ := ck_e e177
    cases ee
    exact k0
  obtain ⟨V179, e180, h⟩ := lt_e h
  refine g_putRF (pc := 130) G ci_9 (uw_9 G.2.2.2.2.1) (k := 19) (by decide) rfl rfl k176 rfl rfl rfl (fun _ => ⟨rfl, rfl⟩) (q793 G.2.2.2.2.1) e180 dX10_init_130 ?_
  refine g_aload_n (pc := 133) G dX10_init_133 0 rfl ?_
  refine g_iconst (pc := 134) G (v := 0) dX10_init_134 (by decide) ?_
  refine g_iconst (pc := 135) G (v := 0) dX10_init_135 (by decide) ?_
  refine g_bipush (pc := 136) G (v := 98) dX10_init_136 (by decide) ?_
  refine g_bipush (pc := 138) G (v := 101) dX10_init_138 (by decide) ?_
  refine g_bipush (pc := 140) G (v := 101) dX10_init_140 (by decide) ?_
  refine g_iconst (pc := 142) G (v := 0) dX10_init_142 (by decide) ?_
  obtain ⟨V182, e181, h⟩ := bd_e h
  refine g_callV (pc := 143) (As := [.int 0, .int 0, .int 98, .int 101, .int 101, .int 0]) (rest := []) (st2 := []) G (c_Mo_sign4 l D ca b k176 e181) (mb_Mo_sign4 G.2.2.2.2.1) (q764 G.2.2.2.2.1) (q15 G.2.2.2.2.1) (q762 G.2.2.2.2.1) ci_9 k176 rfl rfl (Nat.le_of_ble_eq_true rfl) ⟨Nat.le_trans (Nat.le_of_ble_eq_true rfl) hR.1, Nat.le_trans (Nat.le_of_ble_eq_true rfl) hR.2⟩ ⟨Nat.le_trans (Nat.le_of_ble_eq_true rfl) hC.1, Nat.le_trans (Nat.le_of_ble_eq_true rfl) hC.2⟩ rfl rfl dX10_init_143 ?_
  refine g_aload_n (pc := 146) G dX10_init_146 0 rfl ?_
  refine g_iconst (pc := 147) G (v := 0) dX10_init_147 (by decide) ?_
  refine g_iconst (pc := 148) G (v := 1) dX10_init_148 (by decide) ?_
  refine g_bipush (pc := 149) G (v := 108) dX10_init_149 (by decide) ?_
  refine g_bipush (pc := 151) G (v := 101) dX10_init_151 (by decide) ?_
  refine g_bipush (pc := 153) G (v := 97) dX10_init_153 (by decide) ?_
  refine g_bipush (pc := 155) G (v := 102) dX10_init_155 (by decide) ?_
  obtain ⟨V184, e183, h⟩ := bd_e h
  refine g_callV (pc := 157) (As := [.int 0, .int 1, .int 108, .int 101, .int 97, .int 102]) (rest := []) (st2 := []) G (c_Mo_sign4 l D ca b k176 e183) (mb_Mo_sign4 G.2.2.2.2.1) (q764 G.2.2.2.2.1) (q15 G.2.2.2.2.1) (q762 G.2.2.2.2.1) ci_9 k176 rfl rfl (Nat.le_of_ble_eq_true rfl) ⟨Nat.le_trans (Nat.le_of_ble_eq_true rfl) hR.1, Nat.le_trans (Nat.le_of_ble_eq_true rfl) hR.2⟩ ⟨Nat.le_trans (Nat.le_of_ble_eq_true rfl) hC.1, Nat.le_trans (Nat.le_of_ble_eq_true rfl) hC.2⟩ rfl rfl dX10_init_157 ?_
  refine g_aload_n (pc := 160) G dX10_init_160 0 rfl ?_
  refine g_iconst (pc := 161) G (v := 0) dX10_init_161 (by decide) ?_
  refine g_iconst (pc := 162) G (v := 2) dX10_init_162 (by decide) ?_
  refine g_bipush (pc := 163) G (v := 101) dX10_init_163 (by decide) ?_
  refine g_bipush (pc := 165) G (v := 121) dX10_init_165 (by decide) ?_
  refine g_bipush (pc := 167) G (v := 101) dX10_init_167 (by decide) ?_
  refine g_iconst (pc := 169) G (v := 0) dX10_init_169 (by decide) ?_
  obtain ⟨V186, e185, h⟩ := bd_e h
  refine g_callV (pc := 170) (As := [.int 0, .int 2, .int 101, .int 121, .int 101, .int 0]) (rest := []) (st2 := []) G (c_Mo_sign4 l D ca b k176 e185) (mb_Mo_sign4 G.2.2.2.2.1) (q764 G.2.2.2.2.1) (q15 G.2.2.2.2.1) (q762 G.2.2.2.2.1) ci_9 k176 rfl rfl (Nat.le_of_ble_eq_true rfl) ⟨Nat.le_trans (Nat.le_of_ble_eq_true rfl) hR.1, Nat.le_trans (Nat.le_of_ble_eq_true rfl) hR.2⟩ ⟨Nat.le_trans (Nat.le_of_ble_eq_true rfl) hC.1, Nat.le_trans (Nat.le_of_ble_eq_true rfl) hC.2⟩ rfl rfl dX10_init_170 ?_
  refine g_aload_n (pc := 173) G dX10_init_173 0 rfl ?_
  refine g_iconst (pc := 174) G (v := 0) dX10_init_174 (by decide) ?_
  refine g_iconst (pc := 175) G (v := 3) dX10_init_175 (by decide) ?_
  refine g_bipush (pc := 176) G (v := 99) dX10_init_176 (by decide) ?_
  refine g_bipush (pc := 178) G (v := 97) dX10_init_178 (by decide) ?_
  refine g_bipush (pc := 180) G (v := 110) dX10_init_180 (by decide) ?_
  refine g_iconst (pc := 182) G (v := 0) dX10_init_182 (by decide) ?_
  obtain ⟨V188, e187, h⟩ := bd_e h
  refine g_callV (pc := 183) (As := [.int 0, .int 3, .int 99, .int 97, .int 110, .int 0]) (rest := []) (st2 := []) G (c_Mo_sign4 l D ca b k176 e187) (mb_Mo_sign4 G.2.2.2.2.1) (q764 G.2.2.2.2.1) (q15 G.2.2.2.2.1) (q762 G.2.2.2.2.1) ci_9 k176 rfl rfl (Nat.le_of_ble_eq_true rfl) ⟨Nat.le_trans (Nat.le_of_ble_eq_true rfl) hR.1, Nat.le_trans (Nat.le_of_ble_eq_true rfl) hR.2⟩ ⟨Nat.le_trans (Nat.le_of_ble_eq_true rfl) hC.1, Nat.le_trans (Nat.le_of_ble_eq_true rfl) hC.2⟩ rfl rfl dX10_init_183 ?_
  refine g_aload_n (pc := 186) G dX10_init_186 0 rfl ?_
  refine g_iconst (pc := 187) G (v := 1) dX10_init_187 (by decide) ?_
  refine g_bipush (pc := 188) G (v := (-4)) dX10_init_188 (by decide) ?_
  refine g_bipush (pc := 190) G (v := 110) dX10_init_190 (by decide) ?_
  refine g_iconst (pc := 192) G (v := 0) dX10_init_192 (by decide) ?_
  refine g_iconst (pc := 193) G (v := 0) dX10_init_193 (by decide) ?_
  refine g_iconst (pc := 194) G (v := 0) dX10_init_194 (by decide) ?_
  obtain ⟨V190, e189, h⟩ := bd_e h
  refine g_callV (pc := 195) (As := [.int 1, .int (-4), .int 110, .int 0, .int 0, .int 0]) (rest := []) (st2 := []) G (c_Mo_sign4 l D ca b k176 e189) (mb_Mo_sign4 G.2.2.2.2.1) (q764 G.2.2.2.2.1) (q15 G.2.2.2.2.1) (q762 G.2.2.2.2.1) ci_9 k176 rfl rfl (Nat.le_of_ble_eq_true rfl) ⟨Nat.le_trans (Nat.le_of_ble_eq_true rfl) hR.1, Nat.le_trans (Nat.le_of_ble_eq_true rfl) hR.2⟩ ⟨Nat.le_trans (Nat.le_of_ble_eq_true rfl) hC.1, Nat.le_trans (Nat.le_of_ble_eq_true rfl) hC.2⟩ rfl rfl dX10_init_195 ?_
  refine g_aload_n (pc := 198) G dX10_init_198 0 rfl ?_
  refine g_iconst (pc := 199) G (v := 1) dX10_init_199 (by decide) ?_
  refine g_bipush (pc := 200) G (v := (-4)) dX10_init_200 (by decide) ?_
  refine g_bipush (pc := 202) G (v := 116) dX10_init_202 (by decide) ?_
  refine g_iconst (pc := 204) G (v := 0) dX10_init_204 (by decide) ?_
  refine g_iconst (pc := 205) G (v := 0) dX10_init_205 (by decide) ?_
  refine g_iconst (pc := 206) G (v := 0) dX10_init_206 (by decide) ?_
  obtain ⟨V192, e191, h⟩ := bd_e h
  refine g_callV (pc := 207) (As := [.int 1, .int (-4), .int 116, .int 0, .int 0, .int 0]) (rest := []) (st2 := []) G (c_Mo_sign4 l D ca b k176 e191) (mb_Mo_sign4 G.2.2.2.2.1) (q764 G.2.2.2.2.1) (q15 G.2.2.2.2.1) (q762 G.2.2.2.2.1) ci_9 k176 rfl rfl (Nat.le_of_ble_eq_true rfl) ⟨Nat.le_trans (Nat.le_of_ble_eq_true rfl) hR.1, Nat.le_trans (Nat.le_of_ble_eq_true rfl) hR.2⟩ ⟨Nat.le_trans (Nat.le_of_ble_eq_true rfl) hC.1, Nat.le_trans (Nat.le_of_ble_eq_true rfl) hC.2⟩ rfl rfl dX10_init_207 ?_
  refine g_aload_n (pc := 210) G dX10_init_210 0 rfl ?_
  refine g_iconst (pc := 211) G (v := 1) dX10_init_211 (by decide) ?_
  refine g_bipush (pc := 212) G (v := (-4)) dX10_init_212 (by decide) ?_
  refine g_bipush (pc := 214) G (v := 98) dX10_init_214 (by decide) ?_
  refine g_iconst (pc := 216) G (v := 0) dX10_init_216 (by decide) ?_
  refine g_iconst (pc := 217) G (v := 0) dX10_init_217 (by decide) ?_
  refine g_iconst (pc := 218) G (v := 0) dX10_init_218 (by decide) ?_
  obtain ⟨V194, e193, h⟩ := bd_e h
  refine g_callV (pc := 219) (As := [.int 1, .int (-4), .int 98, .int 0, .int 0, .int 0]) (rest := []) (st2 := []) G (c_Mo_sign4 l D ca b k176 e193) (mb_Mo_sign4 G.2.2.2.2.1) (q764 G.2.2.2.2.1) (q15 G.2.2.2.2.1) (q762 G.2.2.2.2.1) ci_9 k176 rfl rfl (Nat.le_of_ble_eq_true rfl) ⟨Nat.le_trans (Nat.le_of_ble_eq_true rfl) hR.1, Nat.le_trans (Nat.le_of_ble_eq_true rfl) hR.2⟩ ⟨Nat.le_trans (Nat.le_of_ble_eq_true rfl) hC.1, Nat.le_trans (Nat.le_of_ble_eq_true rfl) hC.2⟩ rfl rfl dX10_init_219 ?_
  refine g_aload_n (pc := 222) G dX10_init_222 0 rfl ?_
  refine g_iconst (pc := 223) G (v := 1) dX10_init_223 (by decide) ?_
  refine g_bipush (pc := 224) G (v := (-4)) dX10_init_224 (by decide) ?_
  refine g_bipush (pc := 226) G (v := 108) dX10_init_226 (by decide) ?_
  refine g_iconst (pc := 228) G (v := 0) dX10_init_228 (by decide) ?_
  refine g_iconst (pc := 229) G (v := 0) dX10_init_229 (by decide) ?_
  refine g_iconst (pc := 230) G (v := 0) dX10_init_230 (by decide) ?_
  obtain ⟨V196, e195, h⟩ := bd_e h
  refine g_callV (pc := 231) (As := [.int 1, .int (-4), .int 108, .int 0, .int 0, .int 0]) (rest := []) (st2 := []) G (c_Mo_sign4 l D ca b k176 e195) (mb_Mo_sign4 G.2.2.2.2.1) (q764 G.2.2.2.2.1) (q15 G.2.2.2.2.1) (q762 G.2.2.2.2.1) ci_9 k176 rfl rfl (Nat.le_of_ble_eq_true rfl) ⟨Nat.le_trans (Nat.le_of_ble_eq_true rfl) hR.1, Nat.le_trans (Nat.le_of_ble_eq_true rfl) hR.2⟩ ⟨Nat.le_trans (Nat.le_of_ble_eq_true rfl) hC.1, Nat.le_trans (Nat.le_of_ble_eq_true rfl) hC.2⟩ rfl rfl dX10_init_231 ?_
  refine g_aload_n (pc := 234) G dX10_init_234 0 rfl ?_
  refine g_iconst (pc := 235) G (v := 2) dX10_init_235 (by decide) ?_
  refine g_iconst (pc := 236) G (v := 4) dX10_init_236 (by decide) ?_
  refine g_iconst (pc := 237) G (v := 0) dX10_init_237 (by decide) ?_
  refine g_iconst (pc := 238) G (v := 0) dX10_init_238 (by decide) ?_
  refine g_iconst (pc := 239) G (v := 0) dX10_init_239 (by decide) ?_
  refine g_iconst (pc := 240) G (v := 0) dX10_init_240 (by decide) ?_
  obtain ⟨V198, e197, h⟩ := bd_e h
  refine g_callV (pc := 241) (As := [.int 2, .int 4, .int 0, .int 0, .int 0, .int 0]) (rest := []) (st2 := []) G (c_Mo_sign4 l D ca b k176 e197) (mb_Mo_sign4 G.2.2.2.2.1) (q764 G.2.2.2.2.1) (q15 G.2.2.2.2.1) (q762 G.2.2.2.2.1) ci_9 k176 rfl rfl (Nat.le_of_ble_eq_true rfl) ⟨Nat.le_trans (Nat.le_of_ble_eq_true rfl) hR.1, Nat.le_trans (Nat.le_of_ble_eq_true rfl) hR.2⟩ ⟨Nat.le_trans (Nat.le_of_ble_eq_true rfl) hC.1, Nat.le_trans (Nat.le_of_ble_eq_true rfl) hC.2⟩ rfl rfl dX10_init_241 ?_
  refine g_aload_n (pc := 244) G dX10_init_244 0 rfl ?_
  refine g_iconst (pc := 245) G (v := 2) dX10_init_245 (by decide) ?_
  refine g_iconst (pc := 246) G (v := 1) dX10_init_246 (by decide) ?_
  refine g_iconst (pc := 247) G (v := 0) dX10_init_247 (by decide) ?_
  refine g_iconst (pc := 248) G (v := 0) dX10_init_248 (by decide) ?_
  refine g_iconst (pc := 249) G (v := 0) dX10_init_249 (by decide) ?_
  refine g_iconst (pc := 250) G (v := 0) dX10_init_250 (by decide) ?_
  obtain ⟨V200, e199, h⟩ := bd_e h
  refine g_callV (pc := 251) (As := [.int 2, .int 1, .int 0, .int 0, .int 0, .int 0]) (rest := []) (st2 := []) G (c_Mo_sign4 l D ca b k176 e199) (mb_Mo_sign4 G.2.2.2.2.1) (q764 G.2.2.2.2.1) (q15 G.2.2.2.2.1) (q762 G.2.2.2.2.1) ci_9 k176 rfl rfl (Nat.le_of_ble_eq_true rfl) ⟨Nat.le_trans (Nat.le_of_ble_eq_true rfl) hR.1, Nat.le_trans (Nat.le_of_ble_eq_true rfl) hR.2⟩ ⟨Nat.le_trans (Nat.le_of_ble_eq_true rfl) hC.1, Nat.le_trans (Nat.le_of_ble_eq_true rfl) hC.2⟩ rfl rfl dX10_init_251 ?_
  refine g_aload_n (pc := 254) G dX10_init_254 0 rfl ?_
  refine g_iconst (pc := 255) G (v := 4) dX10_init_255 (by decide) ?_
  refine g_bipush (pc := 256) G (v := 98) dX10_init_256 (by decide) ?_
  refine g_bipush (pc := 258) G (v := 101) dX10_init_258 (by decide) ?_
  refine g_bipush (pc := 260) G (v := 108) dX10_init_260 (by decide) ?_
  refine g_bipush (pc := 262) G (v := 101) dX10_init_262 (by decide) ?_
  refine g_bipush (pc := 264) G (v := 97) dX10_init_264 (by decide) ?_
  refine g_bipush (pc := 266) G (v := 102) dX10_init_266 (by decide) ?_
  obtain ⟨V202, e201, h⟩ := bd_e h
  refine g_callV (pc := 268) (As := [.int 4, .int 98, .int 101, .int 108, .int 101, .int 97, .int 102]) (rest := []) (st2 := []) G (c_Mo_word6 l D ca b k176 e201) (mb_Mo_word6 G.2.2.2.2.1) (q768 G.2.2.2.2.1) (q16 G.2.2.2.2.1) (q766 G.2.2.2.2.1) ci_9 k176 rfl rfl (Nat.le_of_ble_eq_true rfl) ⟨Nat.le_trans (Nat.le_of_ble_eq_true rfl) hR.1, Nat.le_trans (Nat.le_of_ble_eq_true rfl) hR.2⟩ ⟨Nat.le_trans (Nat.le_of_ble_eq_true rfl) hC.1, Nat.le_trans (Nat.le_of_ble_eq_true rfl) hC.2⟩ rfl rfl dX10_init_268 ?_
  refine g_aload_n (pc := 271) G dX10_init_271 0 rfl ?_
  refine g_iconst (pc := 272) G (v := 1) dX10_init_272 (by decide) ?_
  refine g_bipush (pc := 273) G (v := 108) dX10_init_273 (by decide) ?_
  refine g_bipush (pc := 275) G (v := 101) dX10_init_275 (by decide) ?_
  refine g_bipush (pc := 277) G (v := 97) dX10_init_277 (by decide) ?_
  refine g_bipush (pc := 279) G (v := 102) dX10_init_279 (by decide) ?_
  refine g_iconst (pc := 281) G (v := 0) dX10_init_281 (by decide) ?_
  refine g_iconst (pc := 282) G (v := 0) dX10_init_282 (by decide) ?_
  obtain ⟨V204, e203, h⟩ := bd_e h
  refine g_callV (pc := 283) (As := [.int 1, .int 108, .int 101, .int 97, .int 102, .int 0, .int 0]) (rest := []) (st2 := []) G (c_Mo_word6 l D ca b k176 e203) (mb_Mo_word6 G.2.2.2.2.1) (q768 G.2.2.2.2.1) (q16 G.2.2.2.2.1) (q766 G.2.2.2.2.1) ci_9 k176 rfl rfl (Nat.le_of_ble_eq_true rfl) ⟨Nat.le_trans (Nat.le_of_ble_eq_true rfl) hR.1, Nat.le_trans (Nat.le_of_ble_eq_true rfl) hR.2⟩ ⟨Nat.le_trans (Nat.le_of_ble_eq_true rfl) hC.1, Nat.le_trans (Nat.le_of_ble_eq_true rfl) hC.2⟩ rfl rfl dX10_init_283 ?_
  refine g_aload_n (pc := 286) G dX10_init_286 0 rfl ?_
  refine g_iconst (pc := 287) G (v := 4) dX10_init_287 (by decide) ?_
  refine g_bipush (pc := 288) G (v := 99) dX10_init_288 (by decide) ?_
  refine g_bipush (pc := 290) G (v := 97) dX10_init_290 (by decide) ?_
  refine g_bipush (pc := 292) G (v := 110) dX10_init_292 (by decide) ?_
  refine g_bipush (pc := 294) G (v := 111) dX10_init_294 (by decide) ?_
  refine g_bipush (pc := 296) G (v := 101) dX10_init_296 (by decide) ?_
  refine g_iconst (pc := 298) G (v := 0) dX10_init_298 (by decide) ?_
  obtain ⟨V206, e205, h⟩ := bd_e h
  refine g_callV (pc := 299) (As := [.int 4, .int 99, .int 97, .int 110, .int 111, .int 101, .int 0]) (rest := []) (st2 := []) G (c_Mo_word6 l D ca b k176 e205) (mb_Mo_word6 G.2.2.2.2.1) (q768 G.2.2.2.2.1) (q16 G.2.2.2.2.1) (q766 G.2.2.2.2.1) ci_9 k176 rfl rfl (Nat.le_of_ble_eq_true rfl) ⟨Nat.le_trans (Nat.le_of_ble_eq_true rfl) hR.1, Nat.le_trans (Nat.le_of_ble_eq_true rfl) hR.2⟩ ⟨Nat.le_trans (Nat.le_of_ble_eq_true rfl) hC.1, Nat.le_trans (Nat.le_of_ble_eq_true rfl) hC.2⟩ rfl rfl dX10_init_299 ?_
  refine g_aload_n (pc := 302) G dX10_init_302 0 rfl ?_
  refine g_iconst (pc := 303) G (v := 3) dX10_init_303 (by decide) ?_
  refine g_bipush (pc := 304) G (v := 99) dX10_init_304 (by decide) ?_
  refine g_bipush (pc := 306) G (v := 97) dX10_init_306 (by decide) ?_
  refine g_bipush (pc := 308) G (v := 110) dX10_init_308 (by decide) ?_
  refine g_iconst (pc := 310) G (v := 0) dX10_init_310 (by decide) ?_
  refine g_iconst (pc := 311) G (v := 0) dX10_init_311 (by decide) ?_
  refine g_iconst (pc := 312) G (v := 0) dX10_init_312 (by decide) ?_
  obtain ⟨V208, e207, h⟩ := bd_e h
  refine g_callV (pc := 313) (As := [.int 3, .int 99, .int 97, .int 110, .int 0, .int 0, .int 0]) (rest := []) (st2 := []) G (c_Mo_word6 l D ca b k176 e207) (mb_Mo_word6 G.2.2.2.2.1) (q768 G.2.2.2.2.1) (q16 G.2.2.2.2.1) (q766 G.2.2.2.2.1) ci_9 k176 rfl rfl (Nat.le_of_ble_eq_true rfl) ⟨Nat.le_trans (Nat.le_of_ble_eq_true rfl) hR.1, Nat.le_trans (Nat.le_of_ble_eq_true rfl) hR.2⟩ ⟨Nat.le_trans (Nat.le_of_ble_eq_true rfl) hC.1, Nat.le_trans (Nat.le_of_ble_eq_true rfl) hC.2⟩ rfl rfl dX10_init_313 ?_
  refine g_aload_n (pc := 316) G dX10_init_316 0 rfl ?_
  refine g_iconst (pc := 317) G (v := 5) dX10_init_317 (by decide) ?_
  refine g_bipush (pc := 318) G (v := 99) dX10_init_318 (by decide) ?_
  refine g_bipush (pc := 320) G (v := 97) dX10_init_320 (by decide) ?_
  refine g_bipush (pc := 322) G (v := 110) dX10_init_322 (by decide) ?_
  refine g_bipush (pc := 324) G (v := 116) dX10_init_324 (by decide) ?_
  refine g_iconst (pc := 326) G (v := 0) dX10_init_326 (by decide) ?_
  refine g_iconst (pc := 327) G (v := 0) dX10_init_327 (by decide) ?_
  obtain ⟨V210, e209, h⟩ := bd_e h
  refine g_callV (pc := 328) (As := [.int 5, .int 99, .int 97, .int 110, .int 116, .int 0, .int 0]) (rest := []) (st2 := []) G (c_Mo_word6 l D ca b k176 e209) (mb_Mo_word6 G.2.2.2.2.1) (q768 G.2.2.2.2.1) (q16 G.2.2.2.2.1) (q766 G.2.2.2.2.1) ci_9 k176 rfl rfl (Nat.le_of_ble_eq_true rfl) ⟨Nat.le_trans (Nat.le_of_ble_eq_true rfl) hR.1, Nat.le_trans (Nat.le_of_ble_eq_true rfl) hR.2⟩ ⟨Nat.le_trans (Nat.le_of_ble_eq_true rfl) hC.1, Nat.le_trans (Nat.le_of_ble_eq_true rfl) hC.2⟩ rfl rfl dX10_init_328 ?_
  refine g_aload_n (pc := 331) G dX10_init_331 0 rfl ?_
  refine g_iconst (pc := 332) G (v := 2) dX10_init_332 (by decide) ?_
  refine g_bipush (pc := 333) G (v := 98) dX10_init_333 (by decide) ?_
  refine g_bipush (pc := 335) G (v := 101) dX10_init_335 (by decide) ?_
  refine g_bipush (pc := 337) G (v := 101) dX10_init_337 (by decide) ?_
  refine g_iconst (pc := 339) G (v := 0) dX10_init_339 (by decide) ?_
  refine g_iconst (pc := 340) G (v := 0) dX10_init_340 (by decide) ?_
  refine g_iconst (pc := 341) G (v := 0) dX10_init_341 (by decide) ?_
  obtain ⟨V212, e211, h⟩ := bd_e h
  refine g_callV (pc := 342) (As := [.int 2, .int 98, .int 101, .int 101, .int 0, .int 0, .int 0]) (rest := []) (st2 := []) G (c_Mo_word6 l D ca b k176 e211) (mb_Mo_word6 G.2.2.2.2.1) (q768 G.2.2.2.2.1) (q16 G.2.2.2.2.1) (q766 G.2.2.2.2.1) ci_9 k176 rfl rfl (Nat.le_of_ble_eq_true rfl) ⟨Nat.le_trans (Nat.le_of_ble_eq_true rfl) hR.1, Nat.le_trans (Nat.le_of_ble_eq_true rfl) hR.2⟩ ⟨Nat.le_trans (Nat.le_of_ble_eq_true rfl) hC.1, Nat.le_trans (Nat.le_of_ble_eq_true rfl) hC.2⟩ rfl rfl dX10_init_342 ?_
  refine g_aload_n (pc := 345) G dX10_init_345 0 rfl ?_
  refine g_iconst (pc := 346) G (v := 0) dX10_init_346 (by decide) ?_
  refine g_bipush (pc := 347) G (v := 98) dX10_init_347 (by decide) ?_
  refine g_bipush (pc := 349) G (v := 101) dX10_init_349 (by decide) ?_
  refine g_bipush (pc := 351) G (v := 101) dX10_init_351 (by decide) ?_
  refine g_iconst (pc := 353) G (v := 0) dX10_init_353 (by decide) ?_
  refine g_iconst (pc := 354) G (v := 0) dX10_init_354 (by decide) ?_
  refine g_iconst (pc := 355) G (v := 0) dX10_init_355 (by decide) ?_
  obtain ⟨V214, e213, h⟩ := bd_e h
  refine g_callV (pc := 356) (As := [.int 0, .int 98, .int 101, .int 101, .int 0, .int 0, .int 0]) (rest := []) (st2 := []) G (c_Mo_word6 l D ca b k176 e213) (mb_Mo_word6 G.2.2.2.2.1) (q768 G.2.2.2.2.1) (q16 G.2.2.2.2.1) (q766 G.2.2.2.2.1) ci_9 k176 rfl rfl (Nat.le_of_ble_eq_true rfl) ⟨Nat.le_trans (Nat.le_of_ble_eq_true rfl) hR.1, Nat.le_trans (Nat.le_of_ble_eq_true rfl) hR.2⟩ ⟨Nat.le_trans (Nat.le_of_ble_eq_true rfl) hC.1, Nat.le_trans (Nat.le_of_ble_eq_true rfl) hC.2⟩ rfl rfl dX10_init_356 ?_
  refine g_aload_n (pc := 359) G dX10_init_359 0 rfl ?_
  obtain ⟨r215, e216, h⟩ := bd_e h
  obtain ⟨f217, k218⟩ := ck_e e216
  refine g_getR (pc := 360) G ci_9 (uw_9 G.2.2.2.2.1) (k := 3) (by decide) rfl rfl k176 (q777 G.2.2.2.2.1) dX10_init_360 f217 ?_
  refine g_sipush (pc := 363) G (v := 166) dX10_init_363 (by decide) ?_
  refine g_iconst (pc := 366) G (v := 1) dX10_init_366 (by decide) ?_
  obtain ⟨b219, h⟩ := gd_e h
  obtain ⟨V220, e221, h⟩ := lt_e h
  refine g_iast (pc := 367) G k218 b219 e221 dX10_init_367 ?_
  refine g_aload_n (pc := 368) G dX10_init_368 0 rfl ?_
  obtain ⟨V223, e222, h⟩ := bd_e h
  refine g_callV (pc := 369) (As := []) (rest := []) (st2 := []) G (c_Mo_anew l D ca b k176 e222) (mb_Mo_anew G.2.2.2.2.1) (q772 G.2.2.2.2.1) (q17 G.2.2.2.2.1) (q770 G.2.2.2.2.1) ci_9 k176 rfl rfl (Nat.le_of_ble_eq_true rfl) ⟨Nat.le_trans (Nat.le_of_ble_eq_true rfl) hR.1, Nat.le_trans (Nat.le_of_ble_eq_true rfl) hR.2⟩ ⟨Nat.le_trans (Nat.le_of_ble_eq_true rfl) hC.1, Nat.le_trans (Nat.le_of_ble_eq_true rfl) hC.2⟩ rfl rfl dX10_init_369 ?_
  cases h
  exact g_vret (pc := 372) G dX10_init_372
theorem c_Mo_init (l : Launch) (D : va_G) (ca : Nat → ClassId) (b : Nat) {T : Tx} {V : Vx} {this : Nat} {Tf : Tx} {Vf : Vx} (k_this : kd T this = 9) (h : Mo_init T V this = some (Tf, Vf)) : MG l yX10_init cX10_init 1 (Option.none : Option Jvm.ClassFile.FieldType) 1 28 15 14193 D ca b [rv b (some this)] T V none Tf Vf :=
  MG.ofWG (L := [(0, rv b (some this))]) (by decide +kernel) rfl (Nat.le_of_ble_eq_true rfl) (fun _ _ _ _ _ _ _ G _ => w_Mo_init G ⟨Nat.le_refl _, Nat.le_refl _⟩ ⟨Nat.le_refl _, Nat.le_refl _⟩ k_this h)
