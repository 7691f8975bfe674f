theorem q57 {s : State} {args : Array Value} (h : TB s) : (Jvm.Cond.initialized "RebusSigns$History").before args s = true := TB.w 57 (by decide +kernel) rfl h
theorem q58 {s : State} {args : Array Value} (h : TB s) : (Jvm.Cond.initialized "RebusSigns$Scribe").before args s = true := TB.w 58 (by decide +kernel) rfl h
theorem q59 {s : State} {args : Array Value} (h : TB s) : (Jvm.Cond.initialized "RebusSigns$Reader").before args s = true := TB.w 59 (by decide +kernel) rfl h
theorem q64 {s : State} {args : Array Value} (h : TB s) : (Jvm.Cond.initialized "RebusSigns$Lexicon").before args s = true := TB.w 64 (by decide +kernel) rfl h
theorem q76 {s : State} {args : Array Value} (h : TB s) : (Jvm.Cond.methodLink "RebusSigns" (1 : Nat) ({ cls := "java/lang/Object", name := "<init>", desc := "()V" } : Jvm.MethodName)).before args s = true := TB.w 76 (by decide +kernel) rfl h
theorem q79 {s : State} {args : Array Value} (h : TB s) : (Jvm.Cond.classLink "RebusSigns" (7 : Nat) "RebusSigns$Letters").before args s = true := TB.w 79 (by decide +kernel) rfl h
theorem q81 {s : State} {args : Array Value} (h : TB s) : (Jvm.Cond.methodLink "RebusSigns" (11 : Nat) ({ cls := "RebusSigns$Letters", name := "<init>", desc := "(I)V" } : Jvm.MethodName)).before args s = true := TB.w 81 (by decide +kernel) rfl h
theorem q96 {s : State} {args : Array Value} (h : TB s) : (Jvm.Cond.classLink "RebusSigns" (18 : Nat) "RebusSigns$Row").before args s = true := TB.w 96 (by decide +kernel) rfl h
theorem q98 {s : State} {args : Array Value} (h : TB s) : (Jvm.Cond.methodLink "RebusSigns" (20 : Nat) ({ cls := "RebusSigns$Row", name := "<init>", desc := "(I)V" } : Jvm.MethodName)).before args s = true := TB.w 98 (by decide +kernel) rfl h
theorem q111 {s : State} {args : Array Value} (h : TB s) : (Jvm.Cond.classLink "RebusSigns" (28 : Nat) "RebusSigns$History").before args s = true := TB.w 111 (by decide +kernel) rfl h
theorem q112 {s : State} {args : Array Value} (h : TB s) : (Jvm.Cond.instantiable "RebusSigns$History" (3 : Nat)).before args s = true := TB.w 112 (by decide +kernel) rfl h
theorem q113 {s : State} {args : Array Value} (h : TB s) : (Jvm.Cond.methodLinkNest "RebusSigns" (30 : Nat) ({ cls := "RebusSigns$History", name := "<init>", desc := "()V" } : Jvm.MethodName) "RebusSigns").before args s = true := TB.w 113 (by decide +kernel) rfl h
theorem q114 {s : State} {args : Array Value} (h : TB s) : (Jvm.Cond.instanceMethod ({ cls := "RebusSigns$History", name := "<init>", desc := "()V" } : Jvm.MethodName)).before args s = true := TB.w 114 (by decide +kernel) rfl h
theorem q127 {s : State} {args : Array Value} (h : TB s) : (Jvm.Cond.classLink "RebusSigns" (35 : Nat) "RebusSigns$Scribe").before args s = true := TB.w 127 (by decide +kernel) rfl h
theorem q128 {s : State} {args : Array Value} (h : TB s) : (Jvm.Cond.instantiable "RebusSigns$Scribe" (6 : Nat)).before args s = true := TB.w 128 (by decide +kernel) rfl h
theorem q129 {s : State} {args : Array Value} (h : TB s) : (Jvm.Cond.methodLink "RebusSigns" (37 : Nat) ({ cls := "RebusSigns$Scribe", name := "<init>", desc := "()V" } : Jvm.MethodName)).before args s = true := TB.w 129 (by decide +kernel) rfl h
theorem q130 {s : State} {args : Array Value} (h : TB s) : (Jvm.Cond.instanceMethod ({ cls := "RebusSigns$Scribe", name := "<init>", desc := "()V" } : Jvm.MethodName)).before args s = true := TB.w 130 (by decide +kernel) rfl h
theorem q156 {s : State} {args : Array Value} (h : TB s) : (Jvm.Cond.classLink "RebusSigns" (42 : Nat) "RebusSigns$Reader").before args s = true := TB.w 156 (by decide +kernel) rfl h
theorem q157 {s : State} {args : Array Value} (h : TB s) : (Jvm.Cond.instantiable "RebusSigns$Reader" (5 : Nat)).before args s = true := TB.w 157 (by decide +kernel) rfl h
theorem q158 {s : State} {args : Array Value} (h : TB s) : (Jvm.Cond.methodLinkNest "RebusSigns" (44 : Nat) ({ cls := "RebusSigns$Reader", name := "<init>", desc := "()V" } : Jvm.MethodName) "RebusSigns").before args s = true := TB.w 158 (by decide +kernel) rfl h
theorem q159 {s : State} {args : Array Value} (h : TB s) : (Jvm.Cond.instanceMethod ({ cls := "RebusSigns$Reader", name := "<init>", desc := "()V" } : Jvm.MethodName)).before args s = true := TB.w 159 (by decide +kernel) rfl h
theorem q178 {s : State} {args : Array Value} (h : TB s) : (Jvm.Cond.methodLink "RebusSigns" (49 : Nat) ({ cls := "RebusSigns", name := "firstLexicon", desc := "()LRebusSigns$Lexicon;" } : Jvm.MethodName)).before args s = true := TB.w 178 (by decide +kernel) rfl h
theorem q179 {s : State} {args : Array Value} (h : TB s) : (Jvm.Cond.static ({ cls := "RebusSigns", name := "firstLexicon", desc := "()LRebusSigns$Lexicon;" } : Jvm.MethodName)).before args s = true := TB.w 179 (by decide +kernel) rfl h
theorem q182 {s : State} {args : Array Value} (h : TB s) : (Jvm.Cond.methodLink "RebusSigns" (237 : Nat) ({ cls := "java/lang/String", name := "length", desc := "()I" } : Jvm.MethodName)).before args s = true := TB.w 182 (by decide +kernel) rfl h
theorem q183 {s : State} {args : Array Value} (h : TB s) : (Jvm.Cond.instanceMethod ({ cls := "java/lang/String", name := "length", desc := "()I" } : Jvm.MethodName)).before args s = true := TB.w 183 (by decide +kernel) rfl h
theorem q184 {s : State} {args : Array Value} (h : TB s) : (Jvm.Cond.selects "java/lang/String" ({ cls := "java/lang/String", name := "length", desc := "()I" } : Jvm.MethodName) ({ cls := "java/lang/String", name := "length", desc := "()I" } : Jvm.MethodName)).before args s = true := TB.w 184 (by decide +kernel) rfl h
theorem q192 {s : State} {args : Array Value} (h : TB s) : (Jvm.Cond.methodLink "RebusSigns" (242 : Nat) ({ cls := "java/lang/String", name := "charAt", desc := "(I)C" } : Jvm.MethodName)).before args s = true := TB.w 192 (by decide +kernel) rfl h
theorem q193 {s : State} {args : Array Value} (h : TB s) : (Jvm.Cond.instanceMethod ({ cls := "java/lang/String", name := "charAt", desc := "(I)C" } : Jvm.MethodName)).before args s = true := TB.w 193 (by decide +kernel) rfl h
theorem q194 {s : State} {args : Array Value} (h : TB s) : (Jvm.Cond.selects "java/lang/String" ({ cls := "java/lang/String", name := "charAt", desc := "(I)C" } : Jvm.MethodName) ({ cls := "java/lang/String", name := "charAt", desc := "(I)C" } : Jvm.MethodName)).before args s = true := TB.w 194 (by decide +kernel) rfl h
theorem q234 {s : State} {args : Array Value} (h : TB s) : (Jvm.Cond.classLink "RebusSigns" (57 : Nat) "RebusSigns$Lexicon").before args s = true := TB.w 234 (by decide +kernel) rfl h
theorem q235 {s : State} {args : Array Value} (h : TB s) : (Jvm.Cond.instantiable "RebusSigns$Lexicon" (5 : Nat)).before args s = true := TB.w 235 (by decide +kernel) rfl h
theorem q236 {s : State} {args : Array Value} (h : TB s) : (Jvm.Cond.methodLink "RebusSigns" (59 : Nat) ({ cls := "RebusSigns$Lexicon", name := "<init>", desc := "()V" } : Jvm.MethodName)).before args s = true := TB.w 236 (by decide +kernel) rfl h
theorem q237 {s : State} {args : Array Value} (h : TB s) : (Jvm.Cond.instanceMethod ({ cls := "RebusSigns$Lexicon", name := "<init>", desc := "()V" } : Jvm.MethodName)).before args s = true := TB.w 237 (by decide +kernel) rfl h
theorem mb_RS_firstLexicon {s : State} (h : TB s) : MB yX9_firstLexicon cX9_firstLexicon 2 (Option.some (Jvm.ClassFile.FieldType.object "RebusSigns$Lexicon")) 0 s := MB.mk 180 53 h (by decide +kernel) (by decide +kernel) (by decide +kernel)
theorem mb_RS_init {s : State} (h : TB s) : MB yX9_init cX9_init 1 (Option.none : Option Jvm.ClassFile.FieldType) 0 s := MB.mk 75 53 h (by decide +kernel) (by decide +kernel) (by decide +kernel)
set_option maxRecDepth 100000 in
def RS_firstLexicon_L15 (T8 : Tx) (a1 : Nat) : Nat → Vx → Int32 → Option (Vx)
  | 0, _, _ => none
  | n12 + 1, V14, v13 => (if 106 ≤ v13 then some V14 else gd (inb v13 106) (bd (ck T8 1 (some a1)) (fun _ => bd (Le_put T8 V14 a1 (ftc v13)) (fun V25 => RS_firstLexicon_L15 T8 a1 n12 V25 (v13 + 1)))))
def RS_firstLexicon (T : Tx) (V : Vx)  : Option ((Option Nat) × Tx × Vx) :=
  lt (tp T) (fun a1 => lt (nT T 1 0) (fun T2 => lt (zV T V) (fun V3 => bd2 (Le_init T2 V3 a1 106) (fun T8 V9 => gd (decide (tp T8 = tp T2 + 1)) (bd (RS_firstLexicon_L15 T8 a1 FU V9 0) (fun V17 => lt (tp T8) (fun a27 => lt (nT T8 2 0) (fun T28 => lt (zV T8 V17) (fun V29 => bd2 (Lx_init T28 V29 a27) (fun T34 V35 => gd (decide (tp T34 = tp T28 + 62)) (bd (ck T34 1 (some a1)) (fun _ => bd (ck T34 2 (some a27)) (fun _ => bd2 (Pa_firstFault T34 V35 a1 a27) (fun r46 V45 => some (some a27, T34, V45)))))))))))))))
set_option maxRecDepth 100000 in
def RS_init (T : Tx) (V : Vx) (this : Nat) : Option (Tx × Vx) :=
  lt (tp T) (fun a1 => lt (nT T 1 0) (fun T2 => lt (zV T V) (fun V3 => bd2 (Le_init T2 V3 a1 200) (fun T8 V9 => gd (decide (tp T8 = tp T2 + 1)) (bd (ck T8 8 (some this)) (fun _ => bd (ck T8 1 (some a1)) (fun _ => lt (sR V9 800 this (some a1)) (fun V15 => lt (tp T8) (fun a20 => lt (nT T8 4 0) (fun T21 => lt (zV T8 V15) (fun V22 => bd2 (Ro_init T21 V22 a20 16) (fun T27 V28 => gd (decide (tp T27 = tp T21 + 1)) (bd (ck T27 8 (some this)) (fun _ => bd (ck T27 4 (some a20)) (fun _ => lt (sR V28 801 this (some a20)) (fun V34 => lt (tp T27) (fun a39 => lt (nT T27 4 0) (fun T40 => lt (zV T27 V34) (fun V41 => bd2 (Ro_init T40 V41 a39 9) (fun T46 V47 => gd (decide (tp T46 = tp T40 + 1)) (bd (ck T46 8 (some this)) (fun _ => bd (ck T46 4 (some a39)) (fun _ => lt (sR V47 802 this (some a39)) (fun V53 => lt (tp T46) (fun a58 => lt (nT T46 0 0) (fun T59 => lt (zV T46 V53) (fun V60 => bd2 (Hi_init T59 V60 a58) (fun T65 V66 => gd (decide (tp T65 = tp T59 + 2)) (bd (ck T65 8 (some this)) (fun _ => bd (ck T65 0 (some a58)) (fun _ => lt (sR V66 803 this (some a58)) (fun V72 => lt (tp T65) (fun a77 => lt (nT T65 5 0) (fun T78 => lt (zV T65 V72) (fun V79 => bd2 (Sc_init T78 V79 a77) (fun T84 V85 => gd (decide (tp T84 = tp T78 + 21)) (bd (ck T84 8 (some this)) (fun _ => bd (ck T84 5 (some a77)) (fun _ => lt (sR V85 804 this (some a77)) (fun V91 => lt (tp T84) (fun a96 => lt (nT T84 3 0) (fun T97 => lt (zV T84 V91) (fun V98 => bd2 (Re_init T97 V98 a96) (fun T103 V104 => gd (decide (tp T103 = tp T97 + 5)) (bd (ck T103 8 (some this)) (fun _ => bd (ck T103 3 (some a96)) (fun _ => lt (sR V104 805 this (some a96)) (fun V110 => bd3 (RS_firstLexicon T103 V110) (fun r119 T115 V116 => gd (decide (tp T115 = tp T103 + 65)) (bd (ck T115 8 (some this)) (fun _ => bd (ck T115 2 r119) (fun r127 => lt (sR V116 806 this (some r127)) (fun V123 => lt (tp T115) (fun a129 => lt (nT T115 2 0) (fun T130 => lt (zV T115 V123) (fun V131 => bd2 (Lx_init T130 V131 a129) (fun T136 V137 => gd (decide (tp T136 = tp T130 + 62)) (bd (ck T136 8 (some this)) (fun _ => bd (ck T136 2 (some a129)) (fun _ => lt (sR V137 807 this (some a129)) (fun V143 => some (T136, V143))))))))))))))))))))))))))))))))))))))))))))))))))))))))))))))
set_option maxHeartbeats 4000000 in
set_option maxRecDepth 100000 in
theorem w_RS_firstLexicon {p : Program} {l : Launch} {e : Env} {R : Room} {s : State} {m : MethodId} {args : Array Value} {below : List Frame} {meth : Method} {c : Code} {D : va_G} {ca : Nat → ClassId} {b : Nat} {T : Tx} {V : Vx} (G : GX p s m meth c cX9_firstLexicon 2 (Option.some (Jvm.ClassFile.FieldType.object "RebusSigns$Lexicon")) RX9 "firstLexicon" D ca b) {adK adV : Nat} (SX : SF b adK adV s s.heap) (hR : 6 ≤ R.frames ∧ 126 ≤ R.locals)  (hC : 65 ≤ R.cells ∧ 349 ≤ R.slots) {rr : Option Nat} {Tf : Tx} {Vf : Vx}  (h : RS_firstLexicon T V = some (rr, Tf, Vf)) : WG p l e R s m args below meth c D ca b 2 (QG D ca b (some (rv b rr)) Tf Vf below args s 65 349) 0 0 T V 0 [] [] := by
  unfold RS_firstLexicon at h
  obtain ⟨a1, e4, h⟩ := lt_e h
  obtain ⟨T2, e5, h⟩ := lt_e h
  obtain ⟨V3, e6, h⟩ := lt_e h
  refine g_new (pc := 0) G ci_1 (uw_1 G.2.2.2.2.1) df_1 (q79 G.2.2.2.2.1) (q80 G.2.2.2.2.1) (q54 G.2.2.2.2.1) e5 e6 e4 ⟨Nat.le_trans (Nat.le_of_ble_eq_true rfl) hC.1, Nat.le_trans (Nat.le_of_ble_eq_true rfl) hC.2⟩ dX9_firstLexicon_0 ?_
  have k7 : kd T2 a1 = 1 := by
    rw [← e5, ← e4]
    exact nT_kd _ _ _
  refine g_widen (sl := 2) (Nat.le_of_ble_eq_true rfl) ?_
  refine g_dup (pc := 3) G dX9_firstLexicon_3 rfl ?_
  refine g_ldcS (pc := 4) G SX dX9_firstLexicon_4 ?_
  refine g_strLen (pc := 6) G SX (q183 G.2.2.2.2.1) (q184 G.2.2.2.2.1) (q182 G.2.2.2.2.1) (Nat.le_of_ble_eq_true rfl) ⟨Nat.le_trans (Nat.le_of_ble_eq_true rfl) hR.1, Nat.le_trans (Nat.le_of_ble_eq_true rfl) hR.2⟩ ⟨Nat.le_trans (Nat.le_of_ble_eq_true rfl) hC.1, Nat.le_trans (Nat.le_of_ble_eq_true rfl) hC.2⟩ dX9_firstLexicon_6 ?_
  obtain ⟨T8, V9, e10, h⟩ := bd2_e h
  obtain ⟨z11, h⟩ := gd_e h
  refine g_callI (pc := 9) (As := [.int 106]) (rest := [rv b (some a1)]) (st2 := [rv b (some a1)]) G (c_Le_init l D ca b k7 e10) (mb_Le_init G.2.2.2.2.1) (q82 G.2.2.2.2.1) (q81 G.2.2.2.2.1) rfl rfl rfl (Nat.le_of_ble_eq_true rfl) ⟨Nat.le_trans (Nat.le_of_ble_eq_true rfl) hR.1, Nat.le_trans (Nat.le_of_ble_eq_true rfl) hR.2⟩ ⟨Nat.le_trans (Nat.le_of_ble_eq_true rfl) hC.1, Nat.le_trans (Nat.le_of_ble_eq_true rfl) hC.2⟩ (of_decide_eq_true z11) rfl dX9_firstLexicon_9 ?_
  refine g_widen (sl := 108) (Nat.le_of_ble_eq_true rfl) ?_
  refine g_astore_n (L' := [(0, rv b (some a1))]) (pc := 12) G dX9_firstLexicon_12 (by decide) rfl ?_
  refine g_iconst (pc := 13) G (v := 0) dX9_firstLexicon_13 (by decide) ?_
  refine g_istore_n (L' := [(1, .int 0), (0, rv b (some a1))]) (pc := 14) G dX9_firstLexicon_14 (by decide) rfl ?_
  have LP16 : ∀ (n12 : Nat) (V14 : Vx) (v13 : Int32) (V17 : Vx), RS_firstLexicon_L15 T8 a1 n12 V14 v13 = some (V17) → WG p l e R s m args below meth c D ca b 2 (QG D ca b (some (rv b rr)) Tf Vf below args s 65 349) 2 108 T8 V17 40 [(0, rv b (some a1))] [] → WG p l e R s m args below meth c D ca b 2 (QG D ca b (some (rv b rr)) Tf Vf below args s 65 349) 2 108 T8 V14 15 [(0, rv b (some a1)), (1, .int v13)] [] := by
    intro n12
    induction n12 with
    | zero =>
      intro V14 v13 V17 h
      cases h
    | succ n12 ih15 =>
      intro V14 v13 V17 h K18
      rw [RS_firstLexicon_L15] at h
      refine g_iload_n (pc := 15) G dX9_firstLexicon_15 1 rfl ?_
      refine g_ldcS (pc := 16) G SX dX9_firstLexicon_16 ?_
      refine g_strLen (pc := 18) G SX (q183 G.2.2.2.2.1) (q184 G.2.2.2.2.1) (q182 G.2.2.2.2.1) (Nat.le_of_ble_eq_true rfl) ⟨Nat.le_trans (Nat.le_of_ble_eq_true rfl) hR.1, Nat.le_trans (Nat.le_of_ble_eq_true rfl) hR.2⟩ ⟨Nat.le_trans (Nat.le_of_ble_eq_true rfl) hC.1, Nat.le_trans (Nat.le_of_ble_eq_true rfl) hC.2⟩ dX9_firstLexicon_18 ?_
      refine g_icmp_ge (pc := 21) G 40 dX9_firstLexicon_21 (by decide) (fun c19 => ?_) (fun c19 => ?_)
      · rw [if_pos c19] at h
        cases h
        exact g_sub [0] rfl K18
      · rw [if_neg c19] at h
        refine g_aload_n (pc := 24) G dX9_firstLexicon_24 0 rfl ?_
        refine g_ldcS (pc := 25) G SX dX9_firstLexicon_25 ?_
        refine g_iload_n (pc := 27) G dX9_firstLexicon_27 1 rfl ?_
        obtain ⟨z20, h⟩ := gd_e h
        refine g_strAt (pc := 28) G (st := [rv b (some a1)]) SX z20 (q193 G.2.2.2.2.1) (q194 G.2.2.2.2.1) (q192 G.2.2.2.2.1) (Nat.le_of_ble_eq_true rfl) ⟨Nat.le_trans (Nat.le_of_ble_eq_true rfl) hR.1, Nat.le_trans (Nat.le_of_ble_eq_true rfl) hR.2⟩ ⟨Nat.le_trans (Nat.le_of_ble_eq_true rfl) hC.1, Nat.le_trans (Nat.le_of_ble_eq_true rfl) hC.2⟩ dX9_firstLexicon_28 ?_
        obtain ⟨r23, e22, h⟩ := bd_e h
        have k21 : kd T8 a1 = 1 := by
          obtain ⟨ee, k0⟩ := ck_e e22
          cases ee
          exact k0
        obtain ⟨V25, e24, h⟩ := bd_e h
        refine g_callV (pc := 31) (As := [.int (ftc v13)]) (rest := []) (st2 := []) G (c_Le_put l D ca b k21 e24) (mb_Le_put G.2.2.2.2.1) (q231 G.2.2.2.2.1) (q232 G.2.2.2.2.1) (q230 G.2.2.2.2.1) ci_1 k21 rfl rfl (Nat.le_of_ble_eq_true rfl) ⟨Nat.le_trans (Nat.le_of_ble_eq_true rfl) hR.1, Nat.le_trans (Nat.le_of_ble_eq_true rfl) hR.2⟩ ⟨Nat.le_trans (Nat.le_of_ble_eq_true rfl) hC.1, Nat.le_trans (Nat.le_of_ble_eq_true rfl) hC.2⟩ rfl rfl dX9_firstLexicon_31 ?_
        refine g_iinc (v := v13 + 1) (L' := [(1, .int (v13 + 1)), (0, rv b (some a1))]) (pc := 34) G dX9_firstLexicon_34 1 rfl rfl (by decide) rfl ?_
        refine g_goto (pc := 37) G 15 dX9_firstLexicon_37 (by decide) ?_
        exact g_sub [1, 0] rfl (ih15 _ _ _ h K18)
  obtain ⟨V17, e26, h⟩ := bd_e h
  refine g_sub [1, 0] rfl (LP16 _ _ _ _ e26 ?_)
  obtain ⟨a27, e30, h⟩ := lt_e h
  obtain ⟨T28, e31, h⟩ := lt_e h
  obtain ⟨V29, e32, h⟩ := lt_e h
  refine g_new (pc := 40) G ci_2 (uw_2 G.2.2.2.2.1) df_2 (q234 G.2.2.2.2.1) (q235 G.2.2.2.2.1) (q64 G.2.2.2.2.1) e31 e32 e30 ⟨Nat.le_trans (Nat.le_of_ble_eq_true rfl) hC.1, Nat.le_trans (Nat.le_of_ble_eq_true rfl) hC.2⟩ dX9_firstLexicon_40 ?_
  have k33 : kd T28 a27 = 2 := by
    rw [← e31, ← e30]
    exact nT_kd _ _ _
  refine g_widen (sl := 113) (Nat.le_of_ble_eq_true rfl) ?_
  refine g_dup (pc := 43) G dX9_firstLexicon_43 rfl ?_
  obtain ⟨T34, V35, e36, h⟩ := bd2_e h
  obtain ⟨z37, h⟩ := gd_e h
  refine g_callI (pc := 44) (As := []) (rest := [rv b (some a27)]) (st2 := [rv b (some a27)]) G (c_Lx_init l D ca b k33 e36) (mb_Lx_init G.2.2.2.2.1) (q237 G.2.2.2.2.1) (q236 G.2.2.2.2.1) rfl rfl rfl (Nat.le_of_ble_eq_true rfl) ⟨Nat.le_trans (Nat.le_of_ble_eq_true rfl) hR.1, Nat.le_trans (Nat.le_of_ble_eq_true rfl) hR.2⟩ ⟨Nat.le_trans (Nat.le_of_ble_eq_true rfl) hC.1, Nat.le_trans (Nat.le_of_ble_eq_true rfl) hC.2⟩ (of_decide_eq_true z37) rfl dX9_firstLexicon_44 ?_
  refine g_widen (sl := 349) (Nat.le_of_ble_eq_true rfl) ?_
  refine g_astore_n (L' := [(1, rv b (some a27)), (0, rv b (some a1))]) (pc := 47) G dX9_firstLexicon_47 (by decide) rfl ?_
  refine g_aload_n (pc := 48) G dX9_firstLexicon_48 1 rfl ?_
  refine g_aload_n (pc := 49) G dX9_firstLexicon_49 0 rfl ?_
  obtain ⟨r40, e39, h⟩ := bd_e h
  have k38 : kd T34 a1 = 1 := by
    obtain ⟨ee, k0⟩ := ck_e e39
    cases ee
    exact k0
  obtain ⟨r43, e42, h⟩ := bd_e h
  have k41 : kd T34 a27 = 2 := by
    obtain ⟨ee, k0⟩ := ck_e e42
    cases ee
    exact k0
  obtain ⟨r46, V45, e44, h⟩ := bd2_e h
  refine g_callS (pc := 50) (As := [rv b (some a1), rv b (some a27)]) (rest := []) (st2 := [.int r46]) G (c_Pa_firstFault l D ca b k38 k41 e44) (mb_Pa_firstFault G.2.2.2.2.1) (q325 G.2.2.2.2.1) (q324 G.2.2.2.2.1) rfl rfl (Nat.le_of_ble_eq_true rfl) ⟨Nat.le_trans (Nat.le_of_ble_eq_true rfl) hR.1, Nat.le_trans (Nat.le_of_ble_eq_true rfl) hR.2⟩ ⟨Nat.le_trans (Nat.le_of_ble_eq_true rfl) hC.1, Nat.le_trans (Nat.le_of_ble_eq_true rfl) hC.2⟩ rfl rfl dX9_firstLexicon_50 ?_
  refine g_pop (pc := 53) G dX9_firstLexicon_53 rfl ?_
  refine g_aload_n (pc := 54) G dX9_firstLexicon_54 0 rfl ?_
  cases h
  exact g_aret (pc := 55) G dX9_firstLexicon_55
theorem c_RS_firstLexicon (l : Launch) (D : va_G) (ca : Nat → ClassId) (b adK adV : Nat) {T : Tx} {V : Vx}  {rr : Option Nat} {Tf : Tx} {Vf : Vx}  (h : RS_firstLexicon T V = some (rr, Tf, Vf)) : MX l yX9_firstLexicon cX9_firstLexicon 2 (Option.some (Jvm.ClassFile.FieldType.object "RebusSigns$Lexicon")) 6 126 65 349 D ca b adK adV [] T V (some (rv b rr)) Tf Vf :=
  MX.ofWG (L := []) (by decide +kernel) rfl (Nat.le_of_ble_eq_true rfl) (fun _ _ _ _ _ _ _ G _ SX => w_RS_firstLexicon G SX ⟨Nat.le_refl _, Nat.le_refl _⟩ ⟨Nat.le_refl _, Nat.le_refl _⟩  h)

set_option maxHeartbeats 4000000 in
set_option maxRecDepth 100000 in
theorem w_RS_init {p : Program} {l : Launch} {e : Env} {R : Room} {s : State} {m : MethodId} {args : Array Value} {below : List Frame} {meth : Method} {c : Code} {D : va_G} {ca : Nat → ClassId} {b : Nat} {T : Tx} {V : Vx} (G : GX p s m meth c cX9_init 1 (Option.none : Option Jvm.ClassFile.FieldType) RX9 "<init>" D ca b) {adK adV : Nat} (SX : SF b adK adV s s.heap) (hR : 7 ≤ R.frames ∧ 147 ≤ R.locals) {this : Nat} (hC : 165 ≤ R.cells ∧ 1049 ≤ R.slots) {Tf : Tx} {Vf : Vx} (k_this : kd T this = 8) (h : RS_init T V this = some (Tf, Vf)) : WG p l e R s m args below meth c D ca b 1 (QG D ca b none Tf Vf below args s 165 1049) 0 0 T V 0 [(0, rv b (some this))] [] := by
  unfold RS_init at h
  refine g_aload_n (pc := 0) G dX9_init_0 0 rfl ?_
  refine g_objInit (pc := 1) G (q76 G.2.2.2.2.1) (q77 G.2.2.2.2.1) (q_objc G.2.2.2.2.1) dX9_init_1 ⟨Nat.le_trans (Nat.le_of_ble_eq_true rfl) hR.1, Nat.le_trans (Nat.le_of_ble_eq_true rfl) hR.2⟩ ?_
  refine g_aload_n (pc := 4) G dX9_init_4 0 rfl ?_
  obtain ⟨a1, e4, h⟩ := lt_e h
  obtain ⟨T2, e5, h⟩ := lt_e h
  obtain ⟨V3, e6, h⟩ := lt_e h
  refine g_new (pc := 5) G ci_1 (uw_1 G.2.2.2.2.1) df_1 (q79 G.2.2.2.2.1) (q80 G.2.2.2.2.1) (q54 G.2.2.2.2.1) e5 e6 e4 ⟨Nat.le_trans (Nat.le_of_ble_eq_true rfl) hC.1, Nat.le_trans (Nat.le_of_ble_eq_true rfl) hC.2⟩ dX9_init_5 ?_
  have k7 : kd T2 a1 = 1 := by
    rw [← e5, ← e4]
    exact nT_kd _ _ _
  refine g_widen (sl := 2) (Nat.le_of_ble_eq_true rfl) ?_
  refine g_dup (pc := 8) G dX9_init_8 rfl ?_
  refine g_sipush (pc := 9) G (v := 200) dX9_init_9 (by decide) ?_
  obtain ⟨T8, V9, e10, h⟩ := bd2_e h
  obtain ⟨z11, h⟩ := gd_e h
  refine g_callI (pc := 12) (As := [.int 200]) (rest := [rv b (some a1), rv b (some this)]) (st2 := [rv b (some a1), rv b (some this)]) G (c_Le_init l D ca b k7 e10) (mb_Le_init G.2.2.2.2.1) (q82 G.2.2.2.2.1) (q81 G.2.2.2.2.1) rfl rfl rfl (Nat.le_of_ble_eq_true rfl) ⟨Nat.le_trans (Nat.le_of_ble_eq_true rfl) hR.1, Nat.le_trans (Nat.le_of_ble_eq_true rfl) hR.2⟩ ⟨Nat.le_trans (Nat.le_of_ble_eq_true rfl) hC.1, Nat.le_trans (Nat.le_of_ble_eq_true rfl) hC.2⟩ (of_decide_eq_true z11) rfl dX9_init_12 ?_
  refine g_widen (sl := 202) (Nat.le_of_ble_eq_true rfl) ?_
  obtain ⟨r14, e13, h⟩ := bd_e h
  have k12 : kd T8 this = 8 := by
    obtain ⟨ee, k0⟩ := ck_e e13
    cases ee
    exact k0
  obtain ⟨r19, e18, h⟩ := bd_e h
  have k17 : kd T8 a1 = 1 := by
    obtain ⟨ee, k0⟩ := ck_e e18
    cases ee
    exact k0
  obtain ⟨V15, e16, h⟩ := lt_e h
  refine g_putRF (pc := 15) G ci_8 (uw_8 G.2.2.2.2.1) (k := 0) (by decide) rfl rfl k12 rfl rfl rfl (fun _ => ⟨rfl, rfl⟩) (q399 G.2.2.2.2.1) e16 dX9_init_15 ?_
  refine g_aload_n (pc := 18) G dX9_init_18 0 rfl ?_
  obtain ⟨a20, e23, h⟩ := lt_e h
  obtain ⟨T21, e24, h⟩ := lt_e h
  obtain ⟨V22, e25, h⟩ := lt_e h
  refine g_new (pc := 19) G ci_4 (uw_4 G.2.2.2.2.1) df_4 (q96 G.2.2.2.2.1) (q97 G.2.2.2.2.1) (q56 G.2.2.2.2.1) e24 e25 e23 ⟨Nat.le_trans (Nat.le_of_ble_eq_true rfl) hC.1, Nat.le_trans (Nat.le_of_ble_eq_true rfl) hC.2⟩ dX9_init_19 ?_
  have k26 : kd T21 a20 = 4 := by
    rw [← e24, ← e23]
    exact nT_kd _ _ _
  refine g_widen (sl := 204) (Nat.le_of_ble_eq_true rfl) ?_
  refine g_dup (pc := 22) G dX9_init_22 rfl ?_
  refine g_bipush (pc := 23) G (v := 16) dX9_init_23 (by decide) ?_
  obtain ⟨T27, V28, e29, h⟩ := bd2_e h
  obtain ⟨z30, h⟩ := gd_e h
  refine g_callI (pc := 25) (As := [.int 16]) (rest := [rv b (some a20), rv b (some this)]) (st2 := [rv b (some a20), rv b (some this)]) G (c_Ro_init l D ca b k26 e29) (mb_Ro_init G.2.2.2.2.1) (q99 G.2.2.2.2.1) (q98 G.2.2.2.2.1) rfl rfl rfl (Nat.le_of_ble_eq_true rfl) ⟨Nat.le_trans (Nat.le_of_ble_eq_true rfl) hR.1, Nat.le_trans (Nat.le_of_ble_eq_true rfl) hR.2⟩ ⟨Nat.le_trans (Nat.le_of_ble_eq_true rfl) hC.1, Nat.le_trans (Nat.le_of_ble_eq_true rfl) hC.2⟩ (of_decide_eq_true z30) rfl dX9_init_25 ?_
  refine g_widen (sl := 220) (Nat.le_of_ble_eq_true rfl) ?_
  obtain ⟨r33, e32, h⟩ := bd_e h
  have k31 : kd T27 this = 8 := by
    obtain ⟨ee, k0⟩ := ck_e e32
    cases ee
    exact k0
  obtain ⟨r38, e37, h⟩ := bd_e h
  have k36 : kd T27 a20 = 4 := by
    obtain ⟨ee, k0⟩ := ck_e e37
    cases ee
    exact k0
  obtain ⟨V34, e35, h⟩ := lt_e h
  refine g_putRF (pc := 28) G ci_8 (uw_8 G.2.2.2.2.1) (k := 1) (by decide) rfl rfl k31 rfl rfl rfl (fun _ => ⟨rfl, rfl⟩) (q400 G.2.2.2.2.1) e35 dX9_init_28 ?_
  refine g_aload_n (pc := 31) G dX9_init_31 0 rfl ?_
  obtain ⟨a39, e42, h⟩ := lt_e h
  obtain ⟨T40, e43, h⟩ := lt_e h
  obtain ⟨V41, e44, h⟩ := lt_e h
  refine g_new (pc := 32) G ci_4 (uw_4 G.2.2.2.2.1) df_4 (q96 G.2.2.2.2.1) (q97 G.2.2.2.2.1) (q56 G.2.2.2.2.1) e43 e44 e42 ⟨Nat.le_trans (Nat.le_of_ble_eq_true rfl) hC.1, Nat.le_trans (Nat.le_of_ble_eq_true rfl) hC.2⟩ dX9_init_32 ?_
  have k45 : kd T40 a39 = 4 := by
    rw [← e43, ← e42]
    exact nT_kd _ _ _
  refine g_widen (sl := 222) (Nat.le_of_ble_eq_true rfl) ?_
  refine g_dup (pc := 35) G dX9_init_35 rfl ?_
  refine g_bipush (pc := 36) G (v := 9) dX9_init_36 (by decide) ?_
  obtain ⟨T46, V47, e48, h⟩ := bd2_e h
  obtain ⟨z49, h⟩ := gd_e h
  refine g_callI (pc := 38) (As := [.int 9]) (rest := [rv b (some a39), rv b (some this)]) (st2 := [rv b (some a39), rv b (some this)]) G (c_Ro_init l D ca b k45 e48) (mb_Ro_init G.2.2.2.2.1) (q99 G.2.2.2.2.1) (q98 G.2.2.2.2.1) rfl rfl rfl (Nat.le_of_ble_eq_true rfl) ⟨Nat.le_trans (Nat.le_of_ble_eq_true rfl) hR.1, Nat.le_trans (Nat.le_of_ble_eq_true rfl) hR.2⟩ ⟨Nat.le_trans (Nat.le_of_ble_eq_true rfl) hC.1, Nat.le_trans (Nat.le_of_ble_eq_true rfl) hC.2⟩ (of_decide_eq_true z49) rfl dX9_init_38 ?_
  refine g_widen (sl := 231) (Nat.le_of_ble_eq_true rfl) ?_
  obtain ⟨r52, e51, h⟩ := bd_e h
  have k50 : kd T46 this = 8 := by
    obtain ⟨ee, k0⟩ := ck_e e51
    cases ee
    exact k0
  obtain ⟨r57, e56, h⟩ := bd_e h
  have k55 : kd T46 a39 = 4 := by
    obtain ⟨ee, k0⟩ := ck_e e56
    cases ee
    exact k0
  obtain ⟨V53, e54, h⟩ := lt_e h
  refine g_putRF (pc := 41) G ci_8 (uw_8 G.2.2.2.2.1) (k := 2) (by decide) rfl rfl k50 rfl rfl rfl (fun _ => ⟨rfl, rfl⟩) (q401 G.2.2.2.2.1) e54 dX9_init_41 ?_
  refine g_aload_n (pc := 44) G dX9_init_44 0 rfl ?_
  obtain ⟨a58, e61, h⟩ := lt_e h
  obtain ⟨T59, e62, h⟩ := lt_e h
  obtain ⟨V60, e63, h⟩ := lt_e h
  refine g_new (pc := 45) G ci_0 (uw_0 G.2.2.2.2.1) df_0 (q111 G.2.2.2.2.1) (q112 G.2.2.2.2.1) (q57 G.2.2.2.2.1) e62 e63 e61 ⟨Nat.le_trans (Nat.le_of_ble_eq_true rfl) hC.1, Nat.le_trans (Nat.le_of_ble_eq_true rfl) hC.2⟩ dX9_init_45 ?_
  have k64 : kd T59 a58 = 0 := by
    rw [← e62, ← e61]
    exact nT_kd _ _ _
  refine g_widen (sl := 234) (Nat.le_of_ble_eq_true rfl) ?_
  refine g_dup (pc := 48) G dX9_init_48 rfl ?_
  obtain ⟨T65, V66, e67, h⟩ := bd2_e h
  obtain ⟨z68, h⟩ := gd_e h
  refine g_callIN (pc := 49) (As := []) (rest := [rv b (some a58), rv b (some this)]) (st2 := [rv b (some a58), rv b (some this)]) G (c_Hi_init l D ca b k64 e67) (mb_Hi_init G.2.2.2.2.1) (q114 G.2.2.2.2.1) (q113 G.2.2.2.2.1) rfl rfl rfl (Nat.le_of_ble_eq_true rfl) ⟨Nat.le_trans (Nat.le_of_ble_eq_true rfl) hR.1, Nat.le_trans (Nat.le_of_ble_eq_true rfl) hR.2⟩ ⟨Nat.le_trans (Nat.le_of_ble_eq_true rfl) hC.1, Nat.le_trans (Nat.le_of_ble_eq_true rfl) hC.2⟩ (of_decide_eq_true z68) rfl dX9_init_49 ?_
  refine g_widen (sl := 246) (Nat.le_of_ble_eq_true rfl) ?_
  obtain ⟨r71, e70, h⟩ := bd_e h
  have k69 : kd T65 this = 8 := by
    obtain ⟨ee, k0⟩ := ck_e e70
    cases ee
    exact k0
  obtain ⟨r76, e75, h⟩ := bd_e h
  have k74 : kd T65 a58 = 0 := by
    obtain ⟨ee, k0⟩ := ck_e e75
    cases ee
    exact k0
  obtain ⟨V72, e73, h⟩ := lt_e h
  refine g_putRF (pc := 52) G ci_8 (uw_8 G.2.2.2.2.1) (k := 3) (by decide) rfl rfl k69 rfl rfl rfl (fun _ => ⟨rfl, rfl⟩) (q402 G.2.2.2.2.1) e73 dX9_init_52 ?_
  refine g_aload_n (pc := 55) G dX9_init_55 0 rfl ?_
  obtain ⟨a77, e80, h⟩ := lt_e h
  obtain ⟨T78, e81, h⟩ := lt_e h
  obtain ⟨V79, e82, h⟩ := lt_e h
  refine g_new (pc := 56) G ci_5 (uw_5 G.2.2.2.2.1) df_5 (q127 G.2.2.2.2.1) (q128 G.2.2.2.2.1) (q58 G.2.2.2.2.1) e81 e82 e80 ⟨Nat.le_trans (Nat.le_of_ble_eq_true rfl) hC.1, Nat.le_trans (Nat.le_of_ble_eq_true rfl) hC.2⟩ dX9_init_56 ?_
  have k83 : kd T78 a77 = 5 := by
    rw [← e81, ← e80]
    exact nT_kd _ _ _
  refine g_widen (sl := 252) (Nat.le_of_ble_eq_true rfl) ?_
  refine g_dup (pc := 59) G dX9_init_59 rfl ?_
  obtain ⟨T84, V85, e86, h⟩ := bd2_e h
  obtain ⟨z87, h⟩ := gd_e h
  refine g_callI (pc := 60) (As := []) (rest := [rv b (some a77), rv b (some this)]) (st2 := [rv b (some a77), rv b (some this)]) G (c_Sc_init l D ca b k83 e86) (mb_Sc_init G.2.2.2.2.1) (q130 G.2.2.2.2.1) (q129 G.2.2.2.2.1) rfl rfl rfl (Nat.le_of_ble_eq_true rfl) ⟨Nat.le_trans (Nat.le_of_ble_eq_true rfl) hR.1, Nat.le_trans (Nat.le_of_ble_eq_true rfl) hR.2⟩ ⟨Nat.le_trans (Nat.le_of_ble_eq_true rfl) hC.1, Nat.le_trans (Nat.le_of_ble_eq_true rfl) hC.2⟩ (of_decide_eq_true z87) rfl dX9_init_60 ?_
  refine g_widen (sl := 376) (Nat.le_of_ble_eq_true rfl) ?_
  obtain ⟨r90, e89, h⟩ := bd_e h
  have k88 : kd T84 this = 8 := by
    obtain ⟨ee, k0⟩ := ck_e e89
    cases ee
    exact k0
  obtain ⟨r95, e94, h⟩ := bd_e h
  have k93 : kd T84 a77 = 5 := by
    obtain ⟨ee, k0⟩ := ck_e e94
    cases ee
    exact k0
  obtain ⟨V91, e92, h⟩ := lt_e h
  refine g_putRF (pc := 63) G ci_8 (uw_8 G.2.2.2.2.1) (k := 4) (by decide) rfl rfl k88 rfl rfl rfl (fun _ => ⟨rfl, rfl⟩) (q403 G.2.2.2.2.1) e92 dX9_init_63 ?_
  refine g_aload_n (pc := 66) G dX9_init_66 0 rfl ?_
  obtain ⟨a96, e99, h⟩ := lt_e h
  obtain ⟨T97, e100, h⟩ := lt_e h
  obtain ⟨V98, e101, h⟩ := lt_e h
  refine g_new (pc := 67) G ci_3 (uw_3 G.2.2.2.2.1) df_3 (q156 G.2.2.2.2.1) (q157 G.2.2.2.2.1) (q59 G.2.2.2.2.1) e100 e101 e99 ⟨Nat.le_trans (Nat.le_of_ble_eq_true rfl) hC.1, Nat.le_trans (Nat.le_of_ble_eq_true rfl) hC.2⟩ dX9_init_67 ?_
  have k102 : kd T97 a96 = 3 := by
    rw [← e100, ← e99]
    exact nT_kd _ _ _
  refine g_widen (sl := 381) (Nat.le_of_ble_eq_true rfl) ?_
  refine g_dup (pc := 70) G dX9_init_70 rfl ?_
  obtain ⟨T103, V104, e105, h⟩ := bd2_e h
  obtain ⟨z106, h⟩ := gd_e h
  refine g_callIN (pc := 71) (As := []) (rest := [rv b (some a96), rv b (some this)]) (st2 := [rv b (some a96), rv b (some this)]) G (c_Re_init l D ca b k102 e105) (mb_Re_init G.2.2.2.2.1) (q159 G.2.2.2.2.1) (q158 G.2.2.2.2.1) rfl rfl rfl (Nat.le_of_ble_eq_true rfl) ⟨Nat.le_trans (Nat.le_of_ble_eq_true rfl) hR.1, Nat.le_trans (Nat.le_of_ble_eq_true rfl) hR.2⟩ ⟨Nat.le_trans (Nat.le_of_ble_eq_true rfl) hC.1, Nat.le_trans (Nat.le_of_ble_eq_true rfl) hC.2⟩ (of_decide_eq_true z106) rfl dX9_init_71 ?_
  refine g_widen (sl := 459) (Nat.le_of_ble_eq_true rfl) ?_
  obtain ⟨r109, e108, h⟩ := bd_e h
  have k107 : kd T103 this = 8 := by
    obtain ⟨ee, k0⟩ := ck_e e108
    cases ee
    exact k0
  obtain ⟨r114, e113, h⟩ := bd_e h
  have k112 : kd T103 a96 = 3 := by
    obtain ⟨ee, k0⟩ := ck_e e113
    cases ee
    exact k0
  obtain ⟨V110, e111, h⟩ := lt_e h
  refine g_putRF (pc := 74) G ci_8 (uw_8 G.2.2.2.2.1) (k := 5) (by decide) rfl rfl k107 rfl rfl rfl (fun _ => ⟨rfl, rfl⟩) (q404 G.2.2.2.2.1) e111 dX9_init_74 ?_
  refine g_aload_n (pc := 77) G dX9_init_77 0 rfl ?_
  obtain ⟨r119, T115, V116, e117, h⟩ := bd3_e h
  obtain ⟨z118, h⟩ := gd_e h
  refine g_callSX (pc := 78) (rest := [rv b (some this)]) (st2 := [rv b r119, rv b (some this)]) G SX (c_RS_firstLexicon l D ca b adK adV e117) (mb_RS_firstLexicon G.2.2.2.2.1) (q179 G.2.2.2.2.1) (q178 G.2.2.2.2.1) rfl (Nat.le_of_ble_eq_true rfl) ⟨Nat.le_trans (Nat.le_of_ble_eq_true rfl) hR.1, Nat.le_trans (Nat.le_of_ble_eq_true rfl) hR.2⟩ ⟨Nat.le_trans (Nat.le_of_ble_eq_true rfl) hC.1, Nat.le_trans (Nat.le_of_ble_eq_true rfl) hC.2⟩ (of_decide_eq_true z118) rfl dX9_init_78 ?_
  refine g_widen (sl := 808) (Nat.le_of_ble_eq_true rfl) ?_
  obtain ⟨r122, e121, h⟩ := bd_e h
  have k120 : kd T115 this = 8 := by
    obtain ⟨ee, k0⟩ := ck_e e121
    cases ee
    exact k0
  obtain ⟨r127, e126, h⟩ := bd_e h
  obtain ⟨e128, k125⟩ := ck_e e126
  rw [e128]
  obtain ⟨V123, e124, h⟩ := lt_e h
  refine g_putR (pc := 81) G ci_8 (uw_8 G.2.2.2.2.1) (k := 6) (by decide) rfl rfl k120 rfl (fun _ => ⟨rfl, rfl⟩) (q405 G.2.2.2.2.1) e124 dX9_init_81 ?_
  refine g_aload_n (pc := 84) G dX9_init_84 0 rfl ?_
  obtain ⟨a129, e132, h⟩ := lt_e h
  obtain ⟨T130, e133, h⟩ := lt_e h
  obtain ⟨V131, e134, h⟩ := lt_e h
  refine g_new (pc := 85) G ci_2 (uw_2 G.2.2.2.2.1) df_2 (q234 G.2.2.2.2.1) (q235 G.2.2.2.2.1) (q64 G.2.2.2.2.1) e133 e134 e132 ⟨Nat.le_trans (Nat.le_of_ble_eq_true rfl) hC.1, Nat.le_trans (Nat.le_of_ble_eq_true rfl) hC.2⟩ dX9_init_85 ?_
  have k135 : kd T130 a129 = 2 := by
    rw [← e133, ← e132]
    exact nT_kd _ _ _
  refine g_widen (sl := 813) (Nat.le_of_ble_eq_true rfl) ?_
  refine g_dup (pc := 88) G dX9_init_88 rfl ?_
  obtain ⟨T136, V137, e138, h⟩ := bd2_e h
  obtain ⟨z139, h⟩ := gd_e h
  refine g_callI (pc := 89) (As := []) (rest := [rv b (some a129), rv b (some this)]) (st2 := [rv b (some a129), rv b (some this)]) G (c_Lx_init l D ca b k135 e138) (mb_Lx_init G.2.2.2.2.1) (q237 G.2.2.2.2.1) (q236 G.2.2.2.2.1) rfl rfl rfl (Nat.le_of_ble_eq_true rfl) ⟨Nat.le_trans (Nat.le_of_ble_eq_true rfl) hR.1, Nat.le_trans (Nat.le_of_ble_eq_true rfl) hR.2⟩ ⟨Nat.le_trans (Nat.le_of_ble_eq_true rfl) hC.1, Nat.le_trans (Nat.le_of_ble_eq_true rfl) hC.2⟩ (of_decide_eq_true z139) rfl dX9_init_89 ?_
  refine g_widen (sl := 1049) (Nat.le_of_ble_eq_true rfl) ?_
  obtain ⟨r142, e141, h⟩ := bd_e h
  have k140 : kd T136 this = 8 := by
    obtain ⟨ee, k0⟩ := ck_e e141
    cases ee
    exact k0
  obtain ⟨r147, e146, h⟩ := bd_e h
  have k145 : kd T136 a129 = 2 := by
    obtain ⟨ee, k0⟩ := ck_e e146
    cases ee
    exact k0
  obtain ⟨V143, e144, h⟩ := lt_e h
  refine g_putR (pc := 92) G ci_8 (uw_8 G.2.2.2.2.1) (k := 7) (by decide) rfl rfl k140 rfl (fun _ => ⟨rfl, rfl⟩) (q406 G.2.2.2.2.1) e144 dX9_init_92 ?_
  cases h
  exact g_vret (pc := 95) G dX9_init_95
theorem c_RS_init (l : Launch) (D : va_G) (ca : Nat → ClassId) (b adK adV : Nat) {T : Tx} {V : Vx} {this : Nat} {Tf : Tx} {Vf : Vx} (k_this : kd T this = 8) (h : RS_init T V this = some (Tf, Vf)) : MX l yX9_init cX9_init 1 (Option.none : Option Jvm.ClassFile.FieldType) 7 147 165 1049 D ca b adK adV [rv b (some this)] T V none Tf Vf :=
  MX.ofWG (L := [(0, rv b (some this))]) (by decide +kernel) rfl (Nat.le_of_ble_eq_true rfl) (fun _ _ _ _ _ _ _ G _ SX => w_RS_init G SX ⟨Nat.le_refl _, Nat.le_refl _⟩ ⟨Nat.le_refl _, Nat.le_refl _⟩ k_this h)
