set_option maxHeartbeats 4000000 in
set_option maxRecDepth 100000 in
theorem w_Mo_sign4 {p : Program} {l : Launch} {e : Env} {R : Room} {s : State} {m : MethodId} {args : Array Value} {below : List Frame} {meth : Method} {c : Code} {D : va_G} {ca : Nat → ClassId} {b : Nat} {T : Tx} {V : Vx} (G : GX p s m meth c cX10_sign4 8 (Option.none : Option Jvm.ClassFile.FieldType) RX10 "sign4" D ca b) (hR : 0 ≤ R.frames ∧ 0 ≤ R.locals) {this : Nat} {p1 : Int32} {p2 : Int32} {p3 : Int32} {p4 : Int32} {p5 : Int32} {p6 : Int32}  {Vf : Vx} (k_this : kd T this = 9) (h : Mo_sign4 T V this p1 p2 p3 p4 p5 p6 = some Vf) : WG p l e R s m args below meth c D ca b 8 (QG D ca b none T Vf below args s 0 0) 0 0 T V 0 [(0, rv b (some this)), (1, .int p1), (2, .int p2), (3, .int p3), (4, .int p4), (5, .int p5), (6, .int p6)] [] := by
  unfold Mo_sign4 at h
  refine g_bipush (pc := 0) G (v := 7) dX10_sign4_0 (by decide) ?_
  refine g_aload_n (pc := 2) G dX10_sign4_2 0 rfl ?_
  obtain ⟨r1, e2, h⟩ := bd_e h
  obtain ⟨f3, k4⟩ := ck_e e2
  refine g_getR (pc := 3) G ci_9 (uw_9 G.2.2.2.2.1) (k := 3) (by decide) rfl rfl k_this (q777 G.2.2.2.2.1) dX10_sign4_3 f3 ?_
  refine g_sipush (pc := 6) G (v := 164) dX10_sign4_6 (by decide) ?_
  obtain ⟨b5, h⟩ := gd_e h
  refine g_iald (pc := 9) G k4 b5 dX10_sign4_9 ?_
  refine g_imul (pc := 10) G dX10_sign4_10 ?_
  obtain ⟨x6, e7, h⟩ := lt_e h
  rw [e7]
  refine g_istore (L' := [(7, .int x6), (0, rv b (some this)), (1, .int p1), (2, .int p2), (3, .int p3), (4, .int p4), (5, .int p5), (6, .int p6)]) (pc := 11) G dX10_sign4_11 (by decide) rfl ?_
  refine g_aload_n (pc := 13) G dX10_sign4_13 1 rfl ?_
  obtain ⟨r8, e9, h⟩ := bd_e h
  obtain ⟨f10, k11⟩ := ck_e e9
  refine g_getR (pc := 14) G ci_9 (uw_9 G.2.2.2.2.1) (k := 3) (by decide) rfl rfl k_this (q777 G.2.2.2.2.1) dX10_sign4_14 f10 ?_
  refine g_iload (pc := 17) G dX10_sign4_17 0 rfl ?_
  refine g_iload_n (pc := 19) G dX10_sign4_19 2 rfl ?_
  obtain ⟨b12, h⟩ := gd_e h
  obtain ⟨V13, e14, h⟩ := lt_e h
  refine g_iast (pc := 20) G k11 b12 e14 dX10_sign4_20 ?_
  refine g_aload_n (pc := 21) G dX10_sign4_21 1 rfl ?_
  obtain ⟨r15, e16, h⟩ := bd_e h
  obtain ⟨f17, k18⟩ := ck_e e16
  refine g_getR (pc := 22) G ci_9 (uw_9 G.2.2.2.2.1) (k := 3) (by decide) rfl rfl k_this (q777 G.2.2.2.2.1) dX10_sign4_22 f17 ?_
  refine g_iload (pc := 25) G dX10_sign4_25 0 rfl ?_
  refine g_iconst (pc := 27) G (v := 1) dX10_sign4_27 (by decide) ?_
  refine g_iadd (pc := 28) G dX10_sign4_28 ?_
  refine g_iload_n (pc := 29) G dX10_sign4_29 3 rfl ?_
  obtain ⟨b19, h⟩ := gd_e h
  obtain ⟨V20, e21, h⟩ := lt_e h
  refine g_iast (pc := 30) G k18 b19 e21 dX10_sign4_30 ?_
  refine g_aload_n (pc := 31) G dX10_sign4_31 1 rfl ?_
  obtain ⟨r22, e23, h⟩ := bd_e h
  obtain ⟨f24, k25⟩ := ck_e e23
  refine g_getR (pc := 32) G ci_9 (uw_9 G.2.2.2.2.1) (k := 3) (by decide) rfl rfl k_this (q777 G.2.2.2.2.1) dX10_sign4_32 f24 ?_
  refine g_iload (pc := 35) G dX10_sign4_35 0 rfl ?_
  refine g_iconst (pc := 37) G (v := 2) dX10_sign4_37 (by decide) ?_
  refine g_iadd (pc := 38) G dX10_sign4_38 ?_
  refine g_iload (pc := 39) G dX10_sign4_39 7 rfl ?_
  obtain ⟨x26, hx28, h⟩ := bd_e h
  have K27 : WG p l e R s m args below meth c D ca b 8 (QG D ca b none T Vf below args s 0 0) 0 0 T V20 75 [(0, rv b (some this)), (3, .int p3), (4, .int p4), (5, .int p5), (6, .int p6), (7, .int x6)] [.int x26, .int (x6 + 2), rv b (some r22)] := by
    obtain ⟨b34, h⟩ := gd_e h
    obtain ⟨V35, e36, h⟩ := lt_e h
    refine g_iast (pc := 75) G k25 b34 e36 dX10_sign4_75 ?_
    refine g_aload_n (pc := 76) G dX10_sign4_76 0 rfl ?_
    obtain ⟨r37, e38, h⟩ := bd_e h
    obtain ⟨f39, k40⟩ := ck_e e38
    refine g_getR (pc := 77) G ci_9 (uw_9 G.2.2.2.2.1) (k := 3) (by decide) rfl rfl k_this (q777 G.2.2.2.2.1) dX10_sign4_77 f39 ?_
    refine g_iload (pc := 80) G dX10_sign4_80 5 rfl ?_
    refine g_iconst (pc := 82) G (v := 3) dX10_sign4_82 (by decide) ?_
    refine g_iadd (pc := 83) G dX10_sign4_83 ?_
    refine g_iload_n (pc := 84) G dX10_sign4_84 1 rfl ?_
    obtain ⟨b41, h⟩ := gd_e h
    obtain ⟨V42, e43, h⟩ := lt_e h
    refine g_iast (pc := 85) G k40 b41 e43 dX10_sign4_85 ?_
    refine g_aload_n (pc := 86) G dX10_sign4_86 0 rfl ?_
    obtain ⟨r44, e45, h⟩ := bd_e h
    obtain ⟨f46, k47⟩ := ck_e e45
    refine g_getR (pc := 87) G ci_9 (uw_9 G.2.2.2.2.1) (k := 3) (by decide) rfl rfl k_this (q777 G.2.2.2.2.1) dX10_sign4_87 f46 ?_
    refine g_iload (pc := 90) G dX10_sign4_90 5 rfl ?_
    refine g_iconst (pc := 92) G (v := 4) dX10_sign4_92 (by decide) ?_
    refine g_iadd (pc := 93) G dX10_sign4_93 ?_
    refine g_iload (pc := 94) G dX10_sign4_94 2 rfl ?_
    obtain ⟨b48, h⟩ := gd_e h
    obtain ⟨V49, e50, h⟩ := lt_e h
    refine g_iast (pc := 96) G k47 b48 e50 dX10_sign4_96 ?_
    refine g_aload_n (pc := 97) G dX10_sign4_97 0 rfl ?_
    obtain ⟨r51, e52, h⟩ := bd_e h
    obtain ⟨f53, k54⟩ := ck_e e52
    refine g_getR (pc := 98) G ci_9 (uw_9 G.2.2.2.2.1) (k := 3) (by decide) rfl rfl k_this (q777 G.2.2.2.2.1) dX10_sign4_98 f53 ?_
    refine g_iload (pc := 101) G dX10_sign4_101 5 rfl ?_
    refine g_iconst (pc := 103) G (v := 5) dX10_sign4_103 (by decide) ?_
    refine g_iadd (pc := 104) G dX10_sign4_104 ?_
    refine g_iload (pc := 105) G dX10_sign4_105 3 rfl ?_
    obtain ⟨b55, h⟩ := gd_e h
    obtain ⟨V56, e57, h⟩ := lt_e h
    refine g_iast (pc := 107) G k54 b55 e57 dX10_sign4_107 ?_
    refine g_aload_n (pc := 108) G dX10_sign4_108 0 rfl ?_
    obtain ⟨r58, e59, h⟩ := bd_e h
    obtain ⟨f60, k61⟩ := ck_e e59
    refine g_getR (pc := 109) G ci_9 (uw_9 G.2.2.2.2.1) (k := 3) (by decide) rfl rfl k_this (q777 G.2.2.2.2.1) dX10_sign4_109 f60 ?_
    refine g_iload (pc := 112) G dX10_sign4_112 5 rfl ?_
    refine g_bipush (pc := 114) G (v := 6) dX10_sign4_114 (by decide) ?_
    refine g_iadd (pc := 116) G dX10_sign4_116 ?_
    refine g_iload (pc := 117) G dX10_sign4_117 4 rfl ?_
    obtain ⟨b62, h⟩ := gd_e h
    obtain ⟨V63, e64, h⟩ := lt_e h
    refine g_iast (pc := 119) G k61 b62 e64 dX10_sign4_119 ?_
    refine g_aload_n (pc := 120) G dX10_sign4_120 0 rfl ?_
    obtain ⟨r65, e66, h⟩ := bd_e h
    obtain ⟨f67, k68⟩ := ck_e e66
    refine g_getR (pc := 121) G ci_9 (uw_9 G.2.2.2.2.1) (k := 3) (by decide) rfl rfl k_this (q777 G.2.2.2.2.1) dX10_sign4_121 f67 ?_
    refine g_sipush (pc := 124) G (v := 164) dX10_sign4_124 (by decide) ?_
    refine g_dup2 (pc := 127) G dX10_sign4_127 rfl rfl ?_
    obtain ⟨b69, h⟩ := gd_e h
    refine g_iald (pc := 128) G k68 b69 dX10_sign4_128 ?_
    refine g_iconst (pc := 129) G (v := 1) dX10_sign4_129 (by decide) ?_
    refine g_iadd (pc := 130) G dX10_sign4_130 ?_
    obtain ⟨b70, h⟩ := gd_e h
    obtain ⟨V71, e72, h⟩ := lt_e h
    refine g_iast (pc := 131) G k68 b70 e72 dX10_sign4_131 ?_
    cases h
    exact g_vret (pc := 132) G dX10_sign4_132
  refine g_if_le (pc := 41) G 48 dX10_sign4_41 (by decide) (fun c30 => ?_) (fun c30 => ?_)
  · rw [if_pos c30] at hx28
    refine g_iload (pc := 48) G dX10_sign4_48 6 rfl ?_
    refine g_if_le (pc := 50) G 57 dX10_sign4_50 (by decide) (fun c31 => ?_) (fun c31 => ?_)
    · rw [if_pos c31] at hx28
      refine g_iload (pc := 57) G dX10_sign4_57 5 rfl ?_
      refine g_if_le (pc := 59) G 66 dX10_sign4_59 (by decide) (fun c32 => ?_) (fun c32 => ?_)
      · rw [if_pos c32] at hx28
        refine g_iload_n (pc := 66) G dX10_sign4_66 4 rfl ?_
        refine g_if_le (pc := 67) G 74 dX10_sign4_67 (by decide) (fun c33 => ?_) (fun c33 => ?_)
        · rw [if_pos c33] at hx28
          refine g_iconst (pc := 74) G (v := 0) dX10_sign4_74 (by decide) ?_
          cases hx28
          exact g_sub [1, 4, 5, 6, 7, 0] rfl K27
        · rw [if_neg c33] at hx28
          refine g_iconst (pc := 70) G (v := 1) dX10_sign4_70 (by decide) ?_
          refine g_goto (pc := 71) G 75 dX10_sign4_71 (by decide) ?_
          cases hx28
          exact g_sub [1, 4, 5, 6, 7, 0] rfl K27
      · rw [if_neg c32] at hx28
        refine g_iconst (pc := 62) G (v := 2) dX10_sign4_62 (by decide) ?_
        refine g_goto (pc := 63) G 75 dX10_sign4_63 (by decide) ?_
        cases hx28
        exact g_sub [1, 4, 5, 6, 7, 0] rfl K27
    · rw [if_neg c31] at hx28
      refine g_iconst (pc := 53) G (v := 3) dX10_sign4_53 (by decide) ?_
      refine g_goto (pc := 54) G 75 dX10_sign4_54 (by decide) ?_
      cases hx28
      exact g_sub [1, 4, 5, 6, 7, 0] rfl K27
  · rw [if_neg c30] at hx28
    refine g_iconst (pc := 44) G (v := 4) dX10_sign4_44 (by decide) ?_
    refine g_goto (pc := 45) G 75 dX10_sign4_45 (by decide) ?_
    cases hx28
    exact g_sub [1, 4, 5, 6, 7, 0] rfl K27
theorem c_Mo_sign4 (l : Launch) (D : va_G) (ca : Nat → ClassId) (b : Nat) {T : Tx} {V : Vx} {this : Nat} {p1 : Int32} {p2 : Int32} {p3 : Int32} {p4 : Int32} {p5 : Int32} {p6 : Int32}  {Vf : Vx} (k_this : kd T this = 9) (h : Mo_sign4 T V this p1 p2 p3 p4 p5 p6 = some Vf) : MG l yX10_sign4 cX10_sign4 8 (Option.none : Option Jvm.ClassFile.FieldType) 0 0 0 0 D ca b [rv b (some this), .int p1, .int p2, .int p3, .int p4, .int p5, .int p6] T V none T Vf :=
  MG.ofWG (L := [(0, rv b (some this)), (1, .int p1), (2, .int p2), (3, .int p3), (4, .int p4), (5, .int p5), (6, .int p6)]) (by decide +kernel) rfl (Nat.le_of_ble_eq_true rfl) (fun _ _ _ _ _ _ _ G _ => w_Mo_sign4 G ⟨Nat.le_refl _, Nat.le_refl _⟩ k_this h)
set_option maxHeartbeats 4000000 in
set_option maxRecDepth 100000 in
theorem w_Mo_word6 {p : Program} {l : Launch} {e : Env} {R : Room} {s : State} {m : MethodId} {args : Array Value} {below : List Frame} {meth : Method} {c : Code} {D : va_G} {ca : Nat → ClassId} {b : Nat} {T : Tx} {V : Vx} (G : GX p s m meth c cX10_word6 9 (Option.none : Option Jvm.ClassFile.FieldType) RX10 "word6" D ca b) (hR : 0 ≤ R.frames ∧ 0 ≤ R.locals) {this : Nat} {p1 : Int32} {p2 : Int32} {p3 : Int32} {p4 : Int32} {p5 : Int32} {p6 : Int32} {p7 : Int32}  {Vf : Vx} (k_this : kd T this = 9) (h : Mo_word6 T V this p1 p2 p3 p4 p5 p6 p7 = some Vf) : WG p l e R s m args below meth c D ca b 9 (QG D ca b none T Vf below args s 0 0) 0 0 T V 0 [(0, rv b (some this)), (1, .int p1), (2, .int p2), (3, .int p3), (4, .int p4), (5, .int p5), (6, .int p6), (7, .int p7)] [] := by
  unfold Mo_word6 at h
  refine g_bipush (pc := 0) G (v := 84) dX10_word6_0 (by decide) ?_
  refine g_bipush (pc := 2) G (v := 10) dX10_word6_2 (by decide) ?_
  refine g_aload_n (pc := 4) G dX10_word6_4 0 rfl ?_
  obtain ⟨r1, e2, h⟩ := bd_e h
  obtain ⟨f3, k4⟩ := ck_e e2
  refine g_getR (pc := 5) G ci_9 (uw_9 G.2.2.2.2.1) (k := 3) (by decide) rfl rfl k_this (q777 G.2.2.2.2.1) dX10_word6_5 f3 ?_
  refine g_sipush (pc := 8) G (v := 165) dX10_word6_8 (by decide) ?_
  obtain ⟨b5, h⟩ := gd_e h
  refine g_iald (pc := 11) G k4 b5 dX10_word6_11 ?_
  refine g_imul (pc := 12) G dX10_word6_12 ?_
  refine g_iadd (pc := 13) G dX10_word6_13 ?_
  obtain ⟨x6, e7, h⟩ := lt_e h
  rw [e7]
  refine g_istore (L' := [(8, .int x6), (0, rv b (some this)), (1, .int p1), (2, .int p2), (3, .int p3), (4, .int p4), (5, .int p5), (6, .int p6), (7, .int p7)]) (pc := 14) G dX10_word6_14 (by decide) rfl ?_
  refine g_aload_n (pc := 16) G dX10_word6_16 1 rfl ?_
  obtain ⟨r8, e9, h⟩ := bd_e h
  obtain ⟨f10, k11⟩ := ck_e e9
  refine g_getR (pc := 17) G ci_9 (uw_9 G.2.2.2.2.1) (k := 3) (by decide) rfl rfl k_this (q777 G.2.2.2.2.1) dX10_word6_17 f10 ?_
  refine g_iload (pc := 20) G dX10_word6_20 0 rfl ?_
  refine g_iload_n (pc := 22) G dX10_word6_22 2 rfl ?_
  obtain ⟨b12, h⟩ := gd_e h
  obtain ⟨V13, e14, h⟩ := lt_e h
  refine g_iast (pc := 23) G k11 b12 e14 dX10_word6_23 ?_
  refine g_aload_n (pc := 24) G dX10_word6_24 1 rfl ?_
  obtain ⟨r15, e16, h⟩ := bd_e h
  obtain ⟨f17, k18⟩ := ck_e e16
  refine g_getR (pc := 25) G ci_9 (uw_9 G.2.2.2.2.1) (k := 3) (by decide) rfl rfl k_this (q777 G.2.2.2.2.1) dX10_word6_25 f17 ?_
  refine g_iload (pc := 28) G dX10_word6_28 0 rfl ?_
  refine g_iconst (pc := 30) G (v := 1) dX10_word6_30 (by decide) ?_
  refine g_iadd (pc := 31) G dX10_word6_31 ?_
  refine g_iload (pc := 32) G dX10_word6_32 8 rfl ?_
  obtain ⟨x19, hx21, h⟩ := bd_e h
  have K20 : WG p l e R s m args below meth c D ca b 9 (QG D ca b none T Vf below args s 0 0) 0 0 T V13 61 [(0, rv b (some this)), (2, .int p2), (3, .int p3), (4, .int p4), (5, .int p5), (6, .int p6), (7, .int p7), (8, .int x6)] [.int x19, .int (x6 + 1), rv b (some r15)] := by
    obtain ⟨b26, h⟩ := gd_e h
    obtain ⟨V27, e28, h⟩ := lt_e h
    refine g_iast (pc := 61) G k18 b26 e28 dX10_word6_61 ?_
    refine g_aload_n (pc := 62) G dX10_word6_62 0 rfl ?_
    obtain ⟨r29, e30, h⟩ := bd_e h
    obtain ⟨f31, k32⟩ := ck_e e30
    refine g_getR (pc := 63) G ci_9 (uw_9 G.2.2.2.2.1) (k := 3) (by decide) rfl rfl k_this (q777 G.2.2.2.2.1) dX10_word6_63 f31 ?_
    refine g_iload (pc := 66) G dX10_word6_66 7 rfl ?_
    refine g_iconst (pc := 68) G (v := 2) dX10_word6_68 (by decide) ?_
    refine g_iadd (pc := 69) G dX10_word6_69 ?_
    refine g_iload_n (pc := 70) G dX10_word6_70 1 rfl ?_
    obtain ⟨b33, h⟩ := gd_e h
    obtain ⟨V34, e35, h⟩ := lt_e h
    refine g_iast (pc := 71) G k32 b33 e35 dX10_word6_71 ?_
    refine g_aload_n (pc := 72) G dX10_word6_72 0 rfl ?_
    obtain ⟨r36, e37, h⟩ := bd_e h
    obtain ⟨f38, k39⟩ := ck_e e37
    refine g_getR (pc := 73) G ci_9 (uw_9 G.2.2.2.2.1) (k := 3) (by decide) rfl rfl k_this (q777 G.2.2.2.2.1) dX10_word6_73 f38 ?_
    refine g_iload (pc := 76) G dX10_word6_76 7 rfl ?_
    refine g_iconst (pc := 78) G (v := 3) dX10_word6_78 (by decide) ?_
    refine g_iadd (pc := 79) G dX10_word6_79 ?_
    refine g_iload_n (pc := 80) G dX10_word6_80 2 rfl ?_
    obtain ⟨b40, h⟩ := gd_e h
    obtain ⟨V41, e42, h⟩ := lt_e h
    refine g_iast (pc := 81) G k39 b40 e42 dX10_word6_81 ?_
    refine g_aload_n (pc := 82) G dX10_word6_82 0 rfl ?_
    obtain ⟨r43, e44, h⟩ := bd_e h
    obtain ⟨f45, k46⟩ := ck_e e44
    refine g_getR (pc := 83) G ci_9 (uw_9 G.2.2.2.2.1) (k := 3) (by decide) rfl rfl k_this (q777 G.2.2.2.2.1) dX10_word6_83 f45 ?_
    refine g_iload (pc := 86) G dX10_word6_86 7 rfl ?_
    refine g_iconst (pc := 88) G (v := 4) dX10_word6_88 (by decide) ?_
    refine g_iadd (pc := 89) G dX10_word6_89 ?_
    refine g_iload (pc := 90) G dX10_word6_90 3 rfl ?_
    obtain ⟨b47, h⟩ := gd_e h
    obtain ⟨V48, e49, h⟩ := lt_e h
    refine g_iast (pc := 92) G k46 b47 e49 dX10_word6_92 ?_
    refine g_aload_n (pc := 93) G dX10_word6_93 0 rfl ?_
    obtain ⟨r50, e51, h⟩ := bd_e h
    obtain ⟨f52, k53⟩ := ck_e e51
    refine g_getR (pc := 94) G ci_9 (uw_9 G.2.2.2.2.1) (k := 3) (by decide) rfl rfl k_this (q777 G.2.2.2.2.1) dX10_word6_94 f52 ?_
    refine g_iload (pc := 97) G dX10_word6_97 7 rfl ?_
    refine g_iconst (pc := 99) G (v := 5) dX10_word6_99 (by decide) ?_
    refine g_iadd (pc := 100) G dX10_word6_100 ?_
    refine g_iload (pc := 101) G dX10_word6_101 4 rfl ?_
    obtain ⟨b54, h⟩ := gd_e h
    obtain ⟨V55, e56, h⟩ := lt_e h
    refine g_iast (pc := 103) G k53 b54 e56 dX10_word6_103 ?_
    refine g_aload_n (pc := 104) G dX10_word6_104 0 rfl ?_
    obtain ⟨r57, e58, h⟩ := bd_e h
    obtain ⟨f59, k60⟩ := ck_e e58
    refine g_getR (pc := 105) G ci_9 (uw_9 G.2.2.2.2.1) (k := 3) (by decide) rfl rfl k_this (q777 G.2.2.2.2.1) dX10_word6_105 f59 ?_
    refine g_iload (pc := 108) G dX10_word6_108 7 rfl ?_
    refine g_bipush (pc := 110) G (v := 6) dX10_word6_110 (by decide) ?_
    refine g_iadd (pc := 112) G dX10_word6_112 ?_
    refine g_iload (pc := 113) G dX10_word6_113 5 rfl ?_
    obtain ⟨b61, h⟩ := gd_e h
    obtain ⟨V62, e63, h⟩ := lt_e h
    refine g_iast (pc := 115) G k60 b61 e63 dX10_word6_115 ?_
    refine g_aload_n (pc := 116) G dX10_word6_116 0 rfl ?_
    obtain ⟨r64, e65, h⟩ := bd_e h
    obtain ⟨f66, k67⟩ := ck_e e65
    refine g_getR (pc := 117) G ci_9 (uw_9 G.2.2.2.2.1) (k := 3) (by decide) rfl rfl k_this (q777 G.2.2.2.2.1) dX10_word6_117 f66 ?_
    refine g_iload (pc := 120) G dX10_word6_120 7 rfl ?_
    refine g_bipush (pc := 122) G (v := 7) dX10_word6_122 (by decide) ?_
    refine g_iadd (pc := 124) G dX10_word6_124 ?_
    refine g_iload (pc := 125) G dX10_word6_125 6 rfl ?_
    obtain ⟨b68, h⟩ := gd_e h
    obtain ⟨V69, e70, h⟩ := lt_e h
    refine g_iast (pc := 127) G k67 b68 e70 dX10_word6_127 ?_
    refine g_aload_n (pc := 128) G dX10_word6_128 0 rfl ?_
    obtain ⟨r71, e72, h⟩ := bd_e h
    obtain ⟨f73, k74⟩ := ck_e e72
    refine g_getR (pc := 129) G ci_9 (uw_9 G.2.2.2.2.1) (k := 3) (by decide) rfl rfl k_this (q777 G.2.2.2.2.1) dX10_word6_129 f73 ?_
    refine g_sipush (pc := 132) G (v := 165) dX10_word6_132 (by decide) ?_
    refine g_dup2 (pc := 135) G dX10_word6_135 rfl rfl ?_
    obtain ⟨b75, h⟩ := gd_e h
    refine g_iald (pc := 136) G k74 b75 dX10_word6_136 ?_
    refine g_iconst (pc := 137) G (v := 1) dX10_word6_137 (by decide) ?_
    refine g_iadd (pc := 138) G dX10_word6_138 ?_
    obtain ⟨b76, h⟩ := gd_e h
    obtain ⟨V77, e78, h⟩ := lt_e h
    refine g_iast (pc := 139) G k74 b76 e78 dX10_word6_139 ?_
    cases h
    exact g_vret (pc := 140) G dX10_word6_140
  refine g_if_le (pc := 34) G 42 dX10_word6_34 (by decide) (fun c23 => ?_) (fun c23 => ?_)
  · rw [if_pos c23] at hx21
    refine g_iload (pc := 42) G dX10_word6_42 7 rfl ?_
    refine g_if_le (pc := 44) G 51 dX10_word6_44 (by decide) (fun c24 => ?_) (fun c24 => ?_)
    · rw [if_pos c24] at hx21
      refine g_iload (pc := 51) G dX10_word6_51 6 rfl ?_
      refine g_if_le (pc := 53) G 60 dX10_word6_53 (by decide) (fun c25 => ?_) (fun c25 => ?_)
      · rw [if_pos c25] at hx21
        refine g_iconst (pc := 60) G (v := 3) dX10_word6_60 (by decide) ?_
        cases hx21
        exact g_sub [1, 3, 4, 5, 6, 7, 8, 0] rfl K20
      · rw [if_neg c25] at hx21
        refine g_iconst (pc := 56) G (v := 4) dX10_word6_56 (by decide) ?_
        refine g_goto (pc := 57) G 61 dX10_word6_57 (by decide) ?_
        cases hx21
        exact g_sub [1, 3, 4, 5, 6, 7, 8, 0] rfl K20
    · rw [if_neg c24] at hx21
      refine g_iconst (pc := 47) G (v := 5) dX10_word6_47 (by decide) ?_
      refine g_goto (pc := 48) G 61 dX10_word6_48 (by decide) ?_
      cases hx21
      exact g_sub [1, 3, 4, 5, 6, 7, 8, 0] rfl K20
  · rw [if_neg c23] at hx21
    refine g_bipush (pc := 37) G (v := 6) dX10_word6_37 (by decide) ?_
    refine g_goto (pc := 39) G 61 dX10_word6_39 (by decide) ?_
    cases hx21
    exact g_sub [1, 3, 4, 5, 6, 7, 8, 0] rfl K20
theorem c_Mo_word6 (l : Launch) (D : va_G) (ca : Nat → ClassId) (b : Nat) {T : Tx} {V : Vx} {this : Nat} {p1 : Int32} {p2 : Int32} {p3 : Int32} {p4 : Int32} {p5 : Int32} {p6 : Int32} {p7 : Int32}  {Vf : Vx} (k_this : kd T this = 9) (h : Mo_word6 T V this p1 p2 p3 p4 p5 p6 p7 = some Vf) : MG l yX10_word6 cX10_word6 9 (Option.none : Option Jvm.ClassFile.FieldType) 0 0 0 0 D ca b [rv b (some this), .int p1, .int p2, .int p3, .int p4, .int p5, .int p6, .int p7] T V none T Vf :=
  MG.ofWG (L := [(0, rv b (some this)), (1, .int p1), (2, .int p2), (3, .int p3), (4, .int p4), (5, .int p5), (6, .int p6), (7, .int p7)]) (by decide +kernel) rfl (Nat.le_of_ble_eq_true rfl) (fun _ _ _ _ _ _ _ G _ => w_Mo_word6 G ⟨Nat.le_refl _, Nat.le_refl _⟩ k_this h)
set_option maxHeartbeats 4000000 in
set_option maxRecDepth 100000 in
theorem w_Mo_anew {p : Program} {l : Launch} {e : Env} {R : Room} {s : State} {m : MethodId} {args : Array Value} {below : List Frame} {meth : Method} {c : Code} {D : va_G} {ca : Nat → ClassId} {b : Nat} {T : Tx} {V : Vx} (G : GX p s m meth c cX10_anew 2 (Option.none : Option Jvm.ClassFile.FieldType) RX10 "anew" D ca b) (hR : 0 ≤ R.frames ∧ 0 ≤ R.locals) {this : Nat}  {Vf : Vx} (k_this : kd T this = 9) (h : Mo_anew T V this = some Vf) : WG p l e R s m args below meth c D ca b 2 (QG D ca b none T Vf below args s 0 0) 0 0 T V 0 [(0, rv b (some this))] [] := by
  unfold Mo_anew at h
  refine g_iconst (pc := 0) G (v := 0) dX10_anew_0 (by decide) ?_
  refine g_istore_n (L' := [(1, .int 0), (0, rv b (some this))]) (pc := 1) G dX10_anew_1 (by decide) rfl ?_
  have LP5 : ∀ (n1 : Nat) (V3 : Vx) (v2 : Int32) (V6 : Vx), Mo_anew_L2 T this n1 V3 v2 = some (V6) → WG p l e R s m args below meth c D ca b 2 (QG D ca b none T Vf below args s 0 0) 0 0 T V6 21 [(0, rv b (some this))] [] → WG p l e R s m args below meth c D ca b 2 (QG D ca b none T Vf below args s 0 0) 0 0 T V3 2 [(0, rv b (some this)), (1, .int v2)] [] := by
    intro n1
    induction n1 with
    | zero =>
      intro V3 v2 V6 h
      cases h
    | succ n1 ih4 =>
      intro V3 v2 V6 h K7
      rw [Mo_anew_L2] at h
      refine g_iload_n (pc := 2) G dX10_anew_2 1 rfl ?_
      refine g_bipush (pc := 3) G (v := 19) dX10_anew_3 (by decide) ?_
      refine g_icmp_ge (pc := 5) G 21 dX10_anew_5 (by decide) (fun c8 => ?_) (fun c8 => ?_)
      · rw [if_pos c8] at h
        cases h
        exact g_sub [0] rfl K7
      · rw [if_neg c8] at h
        refine g_aload_n (pc := 8) G dX10_anew_8 0 rfl ?_
        obtain ⟨r9, e10, h⟩ := bd_e h
        obtain ⟨f11, k12⟩ := ck_e e10
        refine g_getR (pc := 9) G ci_9 (uw_9 G.2.2.2.2.1) (k := 5) (by decide) rfl rfl k_this (q779 G.2.2.2.2.1) dX10_anew_9 f11 ?_
        refine g_iload_n (pc := 12) G dX10_anew_12 1 rfl ?_
        refine g_iconst (pc := 13) G (v := 0) dX10_anew_13 (by decide) ?_
        obtain ⟨b13, h⟩ := gd_e h
        obtain ⟨V14, e15, h⟩ := lt_e h
        refine g_iast (pc := 14) G k12 b13 e15 dX10_anew_14 ?_
        refine g_iinc (v := v2 + 1) (L' := [(1, .int (v2 + 1)), (0, rv b (some this))]) (pc := 15) G dX10_anew_15 1 rfl rfl (by decide) rfl ?_
        refine g_goto (pc := 18) G 2 dX10_anew_18 (by decide) ?_
        exact g_sub [1, 0] rfl (ih4 _ _ _ h K7)
  obtain ⟨V6, e16, h⟩ := bd_e h
  refine g_sub [1, 0] rfl (LP5 _ _ _ _ e16 ?_)
  refine g_aload_n (pc := 21) G dX10_anew_21 0 rfl ?_
  obtain ⟨r17, e18, h⟩ := bd_e h
  obtain ⟨f19, k20⟩ := ck_e e18
  refine g_getR (pc := 22) G ci_9 (uw_9 G.2.2.2.2.1) (k := 5) (by decide) rfl rfl k_this (q779 G.2.2.2.2.1) dX10_anew_22 f19 ?_
  refine g_iconst (pc := 25) G (v := 0) dX10_anew_25 (by decide) ?_
  refine g_aload_n (pc := 26) G dX10_anew_26 0 rfl ?_
  obtain ⟨r21, e22, h⟩ := bd_e h
  obtain ⟨f23, k24⟩ := ck_e e22
  refine g_getR (pc := 27) G ci_9 (uw_9 G.2.2.2.2.1) (k := 3) (by decide) rfl rfl k_this (q777 G.2.2.2.2.1) dX10_anew_27 f23 ?_
  refine g_sipush (pc := 30) G (v := 166) dX10_anew_30 (by decide) ?_
  obtain ⟨b25, h⟩ := gd_e h
  refine g_iald (pc := 33) G k24 b25 dX10_anew_33 ?_
  obtain ⟨b26, h⟩ := gd_e h
  obtain ⟨V27, e28, h⟩ := lt_e h
  refine g_iast (pc := 34) G k20 b26 e28 dX10_anew_34 ?_
  refine g_aload_n (pc := 35) G dX10_anew_35 0 rfl ?_
  refine g_iconst (pc := 36) G (v := 0) dX10_anew_36 (by decide) ?_
  obtain ⟨V29, e30, h⟩ := lt_e h
  refine g_putI (pc := 37) G ci_9 (uw_9 G.2.2.2.2.1) (k := 7) (by decide) rfl rfl k_this rfl ⟨rfl, rfl⟩ (q781 G.2.2.2.2.1) e30 dX10_anew_37 ?_
  cases h
  exact g_vret (pc := 40) G dX10_anew_40
theorem c_Mo_anew (l : Launch) (D : va_G) (ca : Nat → ClassId) (b : Nat) {T : Tx} {V : Vx} {this : Nat}  {Vf : Vx} (k_this : kd T this = 9) (h : Mo_anew T V this = some Vf) : MG l yX10_anew cX10_anew 2 (Option.none : Option Jvm.ClassFile.FieldType) 0 0 0 0 D ca b [rv b (some this)] T V none T Vf :=
  MG.ofWG (L := [(0, rv b (some this))]) (by decide +kernel) rfl (Nat.le_of_ble_eq_true rfl) (fun _ _ _ _ _ _ _ G _ => w_Mo_anew G ⟨Nat.le_refl _, Nat.le_refl _⟩ k_this h)
set_option maxHeartbeats 4000000 in
set_option maxRecDepth 100000 in
theorem w_Mo_in {p : Program} {l : Launch} {e : Env} {R : Room} {s : State} {m : MethodId} {args : Array Value} {below : List Frame} {meth : Method} {c : Code} {D : va_G} {ca : Nat → ClassId} {b : Nat} {T : Tx} {V : Vx} (G : GX p s m meth c cX10_in 6 (Option.some Jvm.ClassFile.FieldType.boolean) RX10 "in" D ca b) (hR : 0 ≤ R.frames ∧ 0 ≤ R.locals) {p1 : Int64} {p2 : Int64} {p3 : Int64} {rr : Int32}   (h : Mo_in T V p1 p2 p3 = some rr) : WG p l e R s m args below meth c D ca b 6 (QG D ca b (some (.int rr)) T V below args s 0 0) 0 0 T V 0 [(0, .long p1), (2, .long p2), (4, .long p3)] [] := by
  unfold Mo_in at h
  refine g_lload_n (pc := 0) G dX10_in_0 0 rfl ?_
  refine g_lload_n (pc := 1) G dX10_in_1 1 rfl ?_
  refine g_lcmp (pc := 2) G dX10_in_2 ?_
  refine g_if_lt (pc := 3) G 17 dX10_in_3 (by decide) (fun c1 => ?_) (fun c1 => ?_)
  · rw [if_pos c1] at h
    refine g_iconst (pc := 17) G (v := 0) dX10_in_17 (by decide) ?_
    cases h
    exact g_zret (pc := 18) G rfl dX10_in_18
  · rw [if_neg c1] at h
    refine g_lload_n (pc := 6) G dX10_in_6 0 rfl ?_
    refine g_lload (pc := 7) G dX10_in_7 2 rfl ?_
    refine g_lcmp (pc := 9) G dX10_in_9 ?_
    refine g_if_gt (pc := 10) G 17 dX10_in_10 (by decide) (fun c2 => ?_) (fun c2 => ?_)
    · rw [if_pos c2] at h
      refine g_iconst (pc := 17) G (v := 0) dX10_in_17 (by decide) ?_
      cases h
      exact g_zret (pc := 18) G rfl dX10_in_18
    · rw [if_neg c2] at h
      refine g_iconst (pc := 13) G (v := 1) dX10_in_13 (by decide) ?_
      refine g_goto (pc := 14) G 18 dX10_in_14 (by decide) ?_
      cases h
      exact g_zret (pc := 18) G rfl dX10_in_18
theorem c_Mo_in (l : Launch) (D : va_G) (ca : Nat → ClassId) (b : Nat) {T : Tx} {V : Vx} {p1 : Int64} {p2 : Int64} {p3 : Int64} {rr : Int32}   (h : Mo_in T V p1 p2 p3 = some rr) : MG l yX10_in cX10_in 6 (Option.some Jvm.ClassFile.FieldType.boolean) 0 0 0 0 D ca b [.long p1, .long p2, .long p3] T V (some (.int rr)) T V :=
  MG.ofWG (L := [(0, .long p1), (2, .long p2), (4, .long p3)]) (by decide +kernel) rfl (Nat.le_of_ble_eq_true rfl) (fun _ _ _ _ _ _ _ G _ => w_Mo_in G ⟨Nat.le_refl _, Nat.le_refl _⟩  h)
set_option maxHeartbeats 4000000 in
set_option maxRecDepth 100000 in
theorem w_Mo_write {p : Program} {l : Launch} {e : Env} {R : Room} {s : State} {m : MethodId} {args : Array Value} {below : List Frame} {meth : Method} {c : Code} {D : va_G} {ca : Nat → ClassId} {b : Nat} {T : Tx} {V : Vx} (G : GX p s m meth c cX10_write 2 (Option.some Jvm.ClassFile.FieldType.int) RX10 "write" D ca b) (hR : 1 ≤ R.frames ∧ 25 ≤ R.locals) {this : Nat} {p1 : Int32} {rr : Int32} {Vf : Vx} (k_this : kd T this = 9) (h : Mo_write T V this p1 = some (rr, Vf)) : WG p l e R s m args below meth c D ca b 2 (QG D ca b (some (.int rr)) T Vf below args s 0 0) 0 0 T V 0 [(0, rv b (some this)), (1, .int p1)] [] := by
  unfold Mo_write at h
  refine g_iload_n (pc := 0) G dX10_write_0 1 rfl ?_
  refine g_i2l (pc := 1) G dX10_write_1 ?_
  refine g_ldc2 (pc := 2) G (v := 32) (q839 G.2.2.2.2.1) dX10_write_2 ?_
  refine g_ldc2 (pc := 5) G (v := 126) (q840 G.2.2.2.2.1) dX10_write_5 ?_
  obtain ⟨r2, e1, h⟩ := bd_e h
  refine g_callS (pc := 8) (As := [.long (Int32.toInt64 p1), .long 32, .long 126]) (rest := []) (st2 := [.int r2]) G (c_Mo_in l D ca b  e1) (mb_Mo_in G.2.2.2.2.1) (q842 G.2.2.2.2.1) (q841 G.2.2.2.2.1) rfl rfl (Nat.le_of_ble_eq_true rfl) ⟨Nat.le_trans (Nat.le_of_ble_eq_true rfl) hR.1, Nat.le_trans (Nat.le_of_ble_eq_true rfl) hR.2⟩ ⟨Nat.zero_le _, Nat.zero_le _⟩ rfl rfl dX10_write_8 ?_
  refine g_if_ne (pc := 11) G 16 dX10_write_11 (by decide) (fun c3 => ?_) (fun c3 => ?_)
  · rw [if_neg c3] at h
    refine g_aload_n (pc := 16) G dX10_write_16 0 rfl ?_
    refine g_getI (pc := 17) G ci_9 (uw_9 G.2.2.2.2.1) (k := 0) (by decide) rfl rfl k_this (q774 G.2.2.2.2.1) dX10_write_17 ?_
    refine g_sipush (pc := 20) G (v := 200) dX10_write_20 (by decide) ?_
    refine g_icmp_ne (pc := 23) G 29 dX10_write_23 (by decide) (fun c4 => ?_) (fun c4 => ?_)
    · rw [if_neg c4] at h
      refine g_aload_n (pc := 29) G dX10_write_29 0 rfl ?_
      obtain ⟨r5, e6, h⟩ := bd_e h
      obtain ⟨f7, k8⟩ := ck_e e6
      refine g_getR (pc := 30) G ci_9 (uw_9 G.2.2.2.2.1) (k := 1) (by decide) rfl rfl k_this (q775 G.2.2.2.2.1) dX10_write_30 f7 ?_
      refine g_aload_n (pc := 33) G dX10_write_33 0 rfl ?_
      refine g_getI (pc := 34) G ci_9 (uw_9 G.2.2.2.2.1) (k := 0) (by decide) rfl rfl k_this (q774 G.2.2.2.2.1) dX10_write_34 ?_
      refine g_iload_n (pc := 37) G dX10_write_37 1 rfl ?_
      obtain ⟨b9, h⟩ := gd_e h
      obtain ⟨V10, e11, h⟩ := lt_e h
      refine g_iast (pc := 38) G k8 b9 e11 dX10_write_38 ?_
      refine g_aload_n (pc := 39) G dX10_write_39 0 rfl ?_
      refine g_dup (pc := 40) G dX10_write_40 rfl ?_
      refine g_getI (pc := 41) G ci_9 (uw_9 G.2.2.2.2.1) (k := 0) (by decide) rfl rfl k_this (q774 G.2.2.2.2.1) dX10_write_41 ?_
      refine g_iconst (pc := 44) G (v := 1) dX10_write_44 (by decide) ?_
      refine g_iadd (pc := 45) G dX10_write_45 ?_
      obtain ⟨V12, e13, h⟩ := lt_e h
      refine g_putI (pc := 46) G ci_9 (uw_9 G.2.2.2.2.1) (k := 0) (by decide) rfl rfl k_this rfl ⟨rfl, rfl⟩ (q774 G.2.2.2.2.1) e13 dX10_write_46 ?_
      refine g_aload_n (pc := 49) G dX10_write_49 0 rfl ?_
      refine g_getI (pc := 50) G ci_9 (uw_9 G.2.2.2.2.1) (k := 0) (by decide) rfl rfl k_this (q774 G.2.2.2.2.1) dX10_write_50 ?_
      cases h
      exact g_iret (pc := 53) G dX10_write_53
    · rw [if_pos c4] at h
      refine g_bipush (pc := 26) G (v := (-3)) dX10_write_26 (by decide) ?_
      cases h
      exact g_iret (pc := 28) G dX10_write_28
  · rw [if_pos c3] at h
    refine g_iconst (pc := 14) G (v := (-1)) dX10_write_14 (by decide) ?_
    cases h
    exact g_iret (pc := 15) G dX10_write_15
theorem c_Mo_write (l : Launch) (D : va_G) (ca : Nat → ClassId) (b : Nat) {T : Tx} {V : Vx} {this : Nat} {p1 : Int32} {rr : Int32} {Vf : Vx} (k_this : kd T this = 9) (h : Mo_write T V this p1 = some (rr, Vf)) : MG l yX10_write cX10_write 2 (Option.some Jvm.ClassFile.FieldType.int) 1 25 0 0 D ca b [rv b (some this), .int p1] T V (some (.int rr)) T Vf :=
  MG.ofWG (L := [(0, rv b (some this)), (1, .int p1)]) (by decide +kernel) rfl (Nat.le_of_ble_eq_true rfl) (fun _ _ _ _ _ _ _ G _ => w_Mo_write G ⟨Nat.le_refl _, Nat.le_refl _⟩ k_this h)
set_option maxHeartbeats 4000000 in
set_option maxRecDepth 100000 in
theorem w_Mo_wipe {p : Program} {l : Launch} {e : Env} {R : Room} {s : State} {m : MethodId} {args : Array Value} {below : List Frame} {meth : Method} {c : Code} {D : va_G} {ca : Nat → ClassId} {b : Nat} {T : Tx} {V : Vx} (G : GX p s m meth c cX10_wipe 2 (Option.some Jvm.ClassFile.FieldType.int) RX10 "wipe" D ca b) (hR : 0 ≤ R.frames ∧ 0 ≤ R.locals) {this : Nat} {rr : Int32} {Vf : Vx} (k_this : kd T this = 9) (h : Mo_wipe T V this = some (rr, Vf)) : WG p l e R s m args below meth c D ca b 2 (QG D ca b (some (.int rr)) T Vf below args s 0 0) 0 0 T V 0 [(0, rv b (some this))] [] := by
  unfold Mo_wipe at h
  refine g_aload_n (pc := 0) G dX10_wipe_0 0 rfl ?_
  refine g_getI (pc := 1) G ci_9 (uw_9 G.2.2.2.2.1) (k := 0) (by decide) rfl rfl k_this (q774 G.2.2.2.2.1) dX10_wipe_1 ?_
  obtain ⟨x1, e2, h⟩ := lt_e h
  rw [e2]
  refine g_istore_n (L' := [(1, .int x1), (0, rv b (some this))]) (pc := 4) G dX10_wipe_4 (by decide) rfl ?_
  refine g_aload_n (pc := 5) G dX10_wipe_5 1 rfl ?_
  refine g_iconst (pc := 6) G (v := 0) dX10_wipe_6 (by decide) ?_
  obtain ⟨V3, e4, h⟩ := lt_e h
  refine g_putI (pc := 7) G ci_9 (uw_9 G.2.2.2.2.1) (k := 0) (by decide) rfl rfl k_this rfl ⟨rfl, rfl⟩ (q774 G.2.2.2.2.1) e4 dX10_wipe_7 ?_
  refine g_iload_n (pc := 10) G dX10_wipe_10 0 rfl ?_
  cases h
  exact g_iret (pc := 11) G dX10_wipe_11
theorem c_Mo_wipe (l : Launch) (D : va_G) (ca : Nat → ClassId) (b : Nat) {T : Tx} {V : Vx} {this : Nat} {rr : Int32} {Vf : Vx} (k_this : kd T this = 9) (h : Mo_wipe T V this = some (rr, Vf)) : MG l yX10_wipe cX10_wipe 2 (Option.some Jvm.ClassFile.FieldType.int) 0 0 0 0 D ca b [rv b (some this)] T V (some (.int rr)) T Vf :=
  MG.ofWG (L := [(0, rv b (some this))]) (by decide +kernel) rfl (Nat.le_of_ble_eq_true rfl) (fun _ _ _ _ _ _ _ G _ => w_Mo_wipe G ⟨Nat.le_refl _, Nat.le_refl _⟩ k_this h)
set_option maxHeartbeats 4000000 in
set_option maxRecDepth 100000 in
theorem w_Mo_byteAt {p : Program} {l : Launch} {e : Env} {R : Room} {s : State} {m : MethodId} {args : Array Value} {below : List Frame} {meth : Method} {c : Code} {D : va_G} {ca : Nat → ClassId} {b : Nat} {T : Tx} {V : Vx} (G : GX p s m meth c cX10_byteAt 2 (Option.some Jvm.ClassFile.FieldType.int) RX10 "byteAt" D ca b) (hR : 0 ≤ R.frames ∧ 0 ≤ R.locals) {this : Nat} {p1 : Int32} {rr : Int32}  (k_this : kd T this = 9) (h : Mo_byteAt T V this p1 = some rr) : WG p l e R s m args below meth c D ca b 2 (QG D ca b (some (.int rr)) T V below args s 0 0) 0 0 T V 0 [(0, rv b (some this)), (1, .int p1)] [] := by
  unfold Mo_byteAt at h
  refine g_iload_n (pc := 0) G dX10_byteAt_0 1 rfl ?_
  refine g_aload_n (pc := 1) G dX10_byteAt_1 0 rfl ?_
  refine g_getI (pc := 2) G ci_9 (uw_9 G.2.2.2.2.1) (k := 0) (by decide) rfl rfl k_this (q774 G.2.2.2.2.1) dX10_byteAt_2 ?_
  refine g_icmp_ge (pc := 5) G 17 dX10_byteAt_5 (by decide) (fun c1 => ?_) (fun c1 => ?_)
  · rw [if_pos c1] at h
    refine g_iconst (pc := 17) G (v := 0) dX10_byteAt_17 (by decide) ?_
    cases h
    exact g_iret (pc := 18) G dX10_byteAt_18
  · rw [if_neg c1] at h
    refine g_aload_n (pc := 8) G dX10_byteAt_8 0 rfl ?_
    obtain ⟨r2, e3, h⟩ := bd_e h
    obtain ⟨f4, k5⟩ := ck_e e3
    refine g_getR (pc := 9) G ci_9 (uw_9 G.2.2.2.2.1) (k := 1) (by decide) rfl rfl k_this (q775 G.2.2.2.2.1) dX10_byteAt_9 f4 ?_
    refine g_iload_n (pc := 12) G dX10_byteAt_12 1 rfl ?_
    obtain ⟨b6, h⟩ := gd_e h
    refine g_iald (pc := 13) G k5 b6 dX10_byteAt_13 ?_
    refine g_goto (pc := 14) G 18 dX10_byteAt_14 (by decide) ?_
    cases h
    exact g_iret (pc := 18) G dX10_byteAt_18
theorem c_Mo_byteAt (l : Launch) (D : va_G) (ca : Nat → ClassId) (b : Nat) {T : Tx} {V : Vx} {this : Nat} {p1 : Int32} {rr : Int32}  (k_this : kd T this = 9) (h : Mo_byteAt T V this p1 = some rr) : MG l yX10_byteAt cX10_byteAt 2 (Option.some Jvm.ClassFile.FieldType.int) 0 0 0 0 D ca b [rv b (some this), .int p1] T V (some (.int rr)) T V :=
  MG.ofWG (L := [(0, rv b (some this)), (1, .int p1)]) (by decide +kernel) rfl (Nat.le_of_ble_eq_true rfl) (fun _ _ _ _ _ _ _ G _ => w_Mo_byteAt G ⟨Nat.le_refl _, Nat.le_refl _⟩ k_this h)
set_option maxHeartbeats 4000000 in
set_option maxRecDepth 100000 in
theorem w_Mo_figure {p : Program} {l : Launch} {e : Env} {R : Room} {s : State} {m : MethodId} {args : Array Value} {below : List Frame} {meth : Method} {c : Code} {D : va_G} {ca : Nat → ClassId} {b : Nat} {T : Tx} {V : Vx} (G : GX p s m meth c cX10_figure 4 (Option.some Jvm.ClassFile.FieldType.boolean) RX10 "figure" D ca b) (hR : 1 ≤ R.frames ∧ 25 ≤ R.locals) {this : Nat} {p1 : Int32} {p2 : Int32} {rr : Int32} {Vf : Vx} (k_this : kd T this = 9) (h : Mo_figure T V this p1 p2 = some (rr, Vf)) : WG p l e R s m args below meth c D ca b 4 (QG D ca b (some (.int rr)) T Vf below args s 0 0) 0 0 T V 0 [(0, rv b (some this)), (1, .int p1), (2, .int p2)] [] := by
  unfold Mo_figure at h
  refine g_aload_n (pc := 0) G dX10_figure_0 0 rfl ?_
  refine g_aload_n (pc := 1) G dX10_figure_1 0 rfl ?_
  refine g_getI (pc := 2) G ci_9 (uw_9 G.2.2.2.2.1) (k := 2) (by decide) rfl rfl k_this (q776 G.2.2.2.2.1) dX10_figure_2 ?_
  obtain ⟨r2, e1, h⟩ := bd_e h
  refine g_callV (pc := 5) (As := [.int (fI V 902 this)]) (rest := []) (st2 := [.int r2]) G (c_Mo_byteAt l D ca b k_this e1) (mb_Mo_byteAt G.2.2.2.2.1) (q866 G.2.2.2.2.1) (q21 G.2.2.2.2.1) (q864 G.2.2.2.2.1) ci_9 k_this rfl rfl (Nat.le_of_ble_eq_true rfl) ⟨Nat.le_trans (Nat.le_of_ble_eq_true rfl) hR.1, Nat.le_trans (Nat.le_of_ble_eq_true rfl) hR.2⟩ ⟨Nat.zero_le _, Nat.zero_le _⟩ rfl rfl dX10_figure_5 ?_
  refine g_bipush (pc := 8) G (v := 48) dX10_figure_8 (by decide) ?_
  refine g_isub (pc := 10) G dX10_figure_10 ?_
  obtain ⟨x3, e4, h⟩ := lt_e h
  rw [e4]
  refine g_istore_n (L' := [(3, .int x3), (0, rv b (some this)), (1, .int p1), (2, .int p2)]) (pc := 11) G dX10_figure_11 (by decide) rfl ?_
  refine g_aload_n (pc := 12) G dX10_figure_12 1 rfl ?_
  obtain ⟨r5, e6, h⟩ := bd_e h
  obtain ⟨f7, k8⟩ := ck_e e6
  refine g_getR (pc := 13) G ci_9 (uw_9 G.2.2.2.2.1) (k := 4) (by decide) rfl rfl k_this (q778 G.2.2.2.2.1) dX10_figure_13 f7 ?_
  refine g_iload_n (pc := 16) G dX10_figure_16 2 rfl ?_
  refine g_iload_n (pc := 17) G dX10_figure_17 0 rfl ?_
  obtain ⟨b9, h⟩ := gd_e h
  obtain ⟨V10, e11, h⟩ := lt_e h
  refine g_iast (pc := 18) G k8 b9 e11 dX10_figure_18 ?_
  refine g_aload_n (pc := 19) G dX10_figure_19 1 rfl ?_
  refine g_dup (pc := 20) G dX10_figure_20 rfl ?_
  refine g_getI (pc := 21) G ci_9 (uw_9 G.2.2.2.2.1) (k := 2) (by decide) rfl rfl k_this (q776 G.2.2.2.2.1) dX10_figure_21 ?_
  refine g_iconst (pc := 24) G (v := 1) dX10_figure_24 (by decide) ?_
  refine g_iadd (pc := 25) G dX10_figure_25 ?_
  obtain ⟨V12, e13, h⟩ := lt_e h
  refine g_putI (pc := 26) G ci_9 (uw_9 G.2.2.2.2.1) (k := 2) (by decide) rfl rfl k_this rfl ⟨rfl, rfl⟩ (q776 G.2.2.2.2.1) e13 dX10_figure_26 ?_
  refine g_iload_n (pc := 29) G dX10_figure_29 0 rfl ?_
  refine g_i2l (pc := 30) G dX10_figure_30 ?_
  refine g_lconst (pc := 31) G (v := 0) dX10_figure_31 (by decide) ?_
  refine g_iload_n (pc := 32) G dX10_figure_32 3 rfl ?_
  refine g_i2l (pc := 33) G dX10_figure_33 ?_
  obtain ⟨r15, e14, h⟩ := bd_e h
  refine g_callS (pc := 34) (As := [.long (Int32.toInt64 x3), .long 0, .long (Int32.toInt64 p2)]) (rest := []) (st2 := [.int r15]) G (c_Mo_in l D ca b  e14) (mb_Mo_in G.2.2.2.2.1) (q842 G.2.2.2.2.1) (q841 G.2.2.2.2.1) rfl rfl (Nat.le_of_ble_eq_true rfl) ⟨Nat.le_trans (Nat.le_of_ble_eq_true rfl) hR.1, Nat.le_trans (Nat.le_of_ble_eq_true rfl) hR.2⟩ ⟨Nat.zero_le _, Nat.zero_le _⟩ rfl rfl dX10_figure_34 ?_
  obtain ⟨z16, h⟩ := gd_e h
  cases h
  exact g_zret (pc := 37) G z16 dX10_figure_37
theorem c_Mo_figure (l : Launch) (D : va_G) (ca : Nat → ClassId) (b : Nat) {T : Tx} {V : Vx} {this : Nat} {p1 : Int32} {p2 : Int32} {rr : Int32} {Vf : Vx} (k_this : kd T this = 9) (h : Mo_figure T V this p1 p2 = some (rr, Vf)) : MG l yX10_figure cX10_figure 4 (Option.some Jvm.ClassFile.FieldType.boolean) 1 25 0 0 D ca b [rv b (some this), .int p1, .int p2] T V (some (.int rr)) T Vf :=
  MG.ofWG (L := [(0, rv b (some this)), (1, .int p1), (2, .int p2)]) (by decide +kernel) rfl (Nat.le_of_ble_eq_true rfl) (fun _ _ _ _ _ _ _ G _ => w_Mo_figure G ⟨Nat.le_refl _, Nat.le_refl _⟩ k_this h)
set_option maxHeartbeats 4000000 in
set_option maxRecDepth 100000 in
theorem w_Mo_gone {p : Program} {l : Launch} {e : Env} {R : Room} {s : State} {m : MethodId} {args : Array Value} {below : List Frame} {meth : Method} {c : Code} {D : va_G} {ca : Nat → ClassId} {b : Nat} {T : Tx} {V : Vx} (G : GX p s m meth c cX10_gone 3 (Option.some Jvm.ClassFile.FieldType.boolean) RX10 "gone" D ca b) (hR : 1 ≤ R.frames ∧ 21 ≤ R.locals) {this : Nat} {p1 : Int32} {rr : Int32} {Vf : Vx} (k_this : kd T this = 9) (h : Mo_gone T V this p1 = some (rr, Vf)) : WG p l e R s m args below meth c D ca b 3 (QG D ca b (some (.int rr)) T Vf below args s 0 0) 0 0 T V 0 [(0, rv b (some this)), (1, .int p1)] [] := by
  unfold Mo_gone at h
  refine g_aload_n (pc := 0) G dX10_gone_0 0 rfl ?_
  refine g_aload_n (pc := 1) G dX10_gone_1 0 rfl ?_
  refine g_getI (pc := 2) G ci_9 (uw_9 G.2.2.2.2.1) (k := 2) (by decide) rfl rfl k_this (q776 G.2.2.2.2.1) dX10_gone_2 ?_
  obtain ⟨r2, e1, h⟩ := bd_e h
  refine g_callV (pc := 5) (As := [.int (fI V 902 this)]) (rest := []) (st2 := [.int r2]) G (c_Mo_byteAt l D ca b k_this e1) (mb_Mo_byteAt G.2.2.2.2.1) (q866 G.2.2.2.2.1) (q21 G.2.2.2.2.1) (q864 G.2.2.2.2.1) ci_9 k_this rfl rfl (Nat.le_of_ble_eq_true rfl) ⟨Nat.le_trans (Nat.le_of_ble_eq_true rfl) hR.1, Nat.le_trans (Nat.le_of_ble_eq_true rfl) hR.2⟩ ⟨Nat.zero_le _, Nat.zero_le _⟩ rfl rfl dX10_gone_5 ?_
  refine g_iload_n (pc := 8) G dX10_gone_8 1 rfl ?_
  obtain ⟨x3, hx5, h⟩ := bd_e h
  have K4 : WG p l e R s m args below meth c D ca b 3 (QG D ca b (some (.int rr)) T Vf below args s 0 0) 0 0 T V 17 [(0, rv b (some this))] [.int x3] := by
    refine g_istore_n (L' := [(2, .int x3), (0, rv b (some this))]) (pc := 17) G dX10_gone_17 (by decide) rfl ?_
    refine g_aload_n (pc := 18) G dX10_gone_18 1 rfl ?_
    refine g_dup (pc := 19) G dX10_gone_19 rfl ?_
    refine g_getI (pc := 20) G ci_9 (uw_9 G.2.2.2.2.1) (k := 2) (by decide) rfl rfl k_this (q776 G.2.2.2.2.1) dX10_gone_20 ?_
    refine g_iconst (pc := 23) G (v := 1) dX10_gone_23 (by decide) ?_
    refine g_iadd (pc := 24) G dX10_gone_24 ?_
    obtain ⟨V8, e9, h⟩ := lt_e h
    refine g_putI (pc := 25) G ci_9 (uw_9 G.2.2.2.2.1) (k := 2) (by decide) rfl rfl k_this rfl ⟨rfl, rfl⟩ (q776 G.2.2.2.2.1) e9 dX10_gone_25 ?_
    refine g_iload_n (pc := 28) G dX10_gone_28 0 rfl ?_
    obtain ⟨z10, h⟩ := gd_e h
    cases h
    exact g_zret (pc := 29) G z10 dX10_gone_29
  refine g_icmp_ne (pc := 9) G 16 dX10_gone_9 (by decide) (fun c7 => ?_) (fun c7 => ?_)
  · rw [if_neg c7] at hx5
    refine g_iconst (pc := 16) G (v := 0) dX10_gone_16 (by decide) ?_
    cases hx5
    exact g_sub [0] rfl K4
  · rw [if_pos c7] at hx5
    refine g_iconst (pc := 12) G (v := 1) dX10_gone_12 (by decide) ?_
    refine g_goto (pc := 13) G 17 dX10_gone_13 (by decide) ?_
    cases hx5
    exact g_sub [0] rfl K4
theorem c_Mo_gone (l : Launch) (D : va_G) (ca : Nat → ClassId) (b : Nat) {T : Tx} {V : Vx} {this : Nat} {p1 : Int32} {rr : Int32} {Vf : Vx} (k_this : kd T this = 9) (h : Mo_gone T V this p1 = some (rr, Vf)) : MG l yX10_gone cX10_gone 3 (Option.some Jvm.ClassFile.FieldType.boolean) 1 21 0 0 D ca b [rv b (some this), .int p1] T V (some (.int rr)) T Vf :=
  MG.ofWG (L := [(0, rv b (some this)), (1, .int p1)]) (by decide +kernel) rfl (Nat.le_of_ble_eq_true rfl) (fun _ _ _ _ _ _ _ G _ => w_Mo_gone G ⟨Nat.le_refl _, Nat.le_refl _⟩ k_this h)
set_option maxHeartbeats 4000000 in
set_option maxRecDepth 100000 in
theorem w_Mo_letters {p : Program} {l : Launch} {e : Env} {R : Room} {s : State} {m : MethodId} {args : Array Value} {below : List Frame} {meth : Method} {c : Code} {D : va_G} {ca : Nat → ClassId} {b : Nat} {T : Tx} {V : Vx} (G : GX p s m meth c cX10_letters 4 (Option.some Jvm.ClassFile.FieldType.boolean) RX10 "letters" D ca b) (hR : 1 ≤ R.frames ∧ 25 ≤ R.locals) {this : Nat} {p1 : Int32} {p2 : Int32} {rr : Int32} {Vf : Vx} (k_this : kd T this = 9) (h : Mo_letters T V this p1 p2 = some (rr, Vf)) : WG p l e R s m args below meth c D ca b 4 (QG D ca b (some (.int rr)) T Vf below args s 0 0) 0 0 T V 0 [(0, rv b (some this)), (1, .int p1), (2, .int p2)] [] := by
  unfold Mo_letters at h
  refine g_iconst (pc := 0) G (v := 0) dX10_letters_0 (by decide) ?_
  refine g_istore_n (L' := [(3, .int 0), (0, rv b (some this)), (1, .int p1), (2, .int p2)]) (pc := 1) G dX10_letters_1 (by decide) rfl ?_
  have LP5 : ∀ (n1 : Nat) (V3 : Vx) (v2 : Int32) (y6 : Int32) (V7 : Vx), Mo_letters_L2 T this p1 p2 n1 V3 v2 = some (y6, V7) → WG p l e R s m args below meth c D ca b 4 (QG D ca b (some (.int rr)) T Vf below args s 0 0) 0 0 T V7 62 [(0, rv b (some this)), (1, .int p1), (3, .int y6)] [] → WG p l e R s m args below meth c D ca b 4 (QG D ca b (some (.int rr)) T Vf below args s 0 0) 0 0 T V3 2 [(0, rv b (some this)), (1, .int p1), (2, .int p2), (3, .int v2)] [] := by
    intro n1
    induction n1 with
    | zero =>
      intro V3 v2 y6 V7 h
      cases h
    | succ n1 ih4 =>
      intro V3 v2 y6 V7 h K8
      rw [Mo_letters_L2] at h
      refine g_iload_n (pc := 2) G dX10_letters_2 3 rfl ?_
      refine g_iload_n (pc := 3) G dX10_letters_3 2 rfl ?_
      refine g_icmp_ge (pc := 4) G 62 dX10_letters_4 (by decide) (fun c9 => ?_) (fun c9 => ?_)
      · rw [if_pos c9] at h
        cases h
        exact g_sub [0, 1, 3] rfl K8
      · rw [if_neg c9] at h
        refine g_aload_n (pc := 7) G dX10_letters_7 0 rfl ?_
        refine g_aload_n (pc := 8) G dX10_letters_8 0 rfl ?_
        refine g_getI (pc := 9) G ci_9 (uw_9 G.2.2.2.2.1) (k := 2) (by decide) rfl rfl k_this (q776 G.2.2.2.2.1) dX10_letters_9 ?_
        obtain ⟨r11, e10, h⟩ := bd_e h
        refine g_callV (pc := 12) (As := [.int (fI V3 902 this)]) (rest := []) (st2 := [.int r11]) G (c_Mo_byteAt l D ca b k_this e10) (mb_Mo_byteAt G.2.2.2.2.1) (q866 G.2.2.2.2.1) (q21 G.2.2.2.2.1) (q864 G.2.2.2.2.1) ci_9 k_this rfl rfl (Nat.le_of_ble_eq_true rfl) ⟨Nat.le_trans (Nat.le_of_ble_eq_true rfl) hR.1, Nat.le_trans (Nat.le_of_ble_eq_true rfl) hR.2⟩ ⟨Nat.zero_le _, Nat.zero_le _⟩ rfl rfl dX10_letters_12 ?_
        refine g_i2l (pc := 15) G dX10_letters_15 ?_
        refine g_ldc2 (pc := 16) G (v := 97) (q876 G.2.2.2.2.1) dX10_letters_16 ?_
        refine g_ldc2 (pc := 19) G (v := 122) (q877 G.2.2.2.2.1) dX10_letters_19 ?_
        obtain ⟨r13, e12, h⟩ := bd_e h
        refine g_callS (pc := 22) (As := [.long (Int32.toInt64 r11), .long 97, .long 122]) (rest := []) (st2 := [.int r13]) G (c_Mo_in l D ca b  e12) (mb_Mo_in G.2.2.2.2.1) (q842 G.2.2.2.2.1) (q841 G.2.2.2.2.1) rfl rfl (Nat.le_of_ble_eq_true rfl) ⟨Nat.le_trans (Nat.le_of_ble_eq_true rfl) hR.1, Nat.le_trans (Nat.le_of_ble_eq_true rfl) hR.2⟩ ⟨Nat.zero_le _, Nat.zero_le _⟩ rfl rfl dX10_letters_22 ?_
        refine g_if_eq (pc := 25) G 62 dX10_letters_25 (by decide) (fun c14 => ?_) (fun c14 => ?_)
        · rw [if_pos c14] at h
          cases h
          exact g_sub [0, 1, 3] rfl K8
        · rw [if_neg c14] at h
          refine g_aload_n (pc := 28) G dX10_letters_28 0 rfl ?_
          obtain ⟨r15, e16, h⟩ := bd_e h
          obtain ⟨f17, k18⟩ := ck_e e16
          refine g_getR (pc := 29) G ci_9 (uw_9 G.2.2.2.2.1) (k := 4) (by decide) rfl rfl k_this (q778 G.2.2.2.2.1) dX10_letters_29 f17 ?_
          refine g_iload_n (pc := 32) G dX10_letters_32 1 rfl ?_
          refine g_iconst (pc := 33) G (v := 1) dX10_letters_33 (by decide) ?_
          refine g_iadd (pc := 34) G dX10_letters_34 ?_
          refine g_iload_n (pc := 35) G dX10_letters_35 3 rfl ?_
          refine g_iadd (pc := 36) G dX10_letters_36 ?_
          refine g_aload_n (pc := 37) G dX10_letters_37 0 rfl ?_
          refine g_aload_n (pc := 38) G dX10_letters_38 0 rfl ?_
          refine g_getI (pc := 39) G ci_9 (uw_9 G.2.2.2.2.1) (k := 2) (by decide) rfl rfl k_this (q776 G.2.2.2.2.1) dX10_letters_39 ?_
          obtain ⟨r20, e19, h⟩ := bd_e h
          refine g_callV (pc := 42) (As := [.int (fI V3 902 this)]) (rest := [.int ((p1 + 1) + v2), rv b (some r15)]) (st2 := [.int r20, .int ((p1 + 1) + v2), rv b (some r15)]) G (c_Mo_byteAt l D ca b k_this e19) (mb_Mo_byteAt G.2.2.2.2.1) (q866 G.2.2.2.2.1) (q21 G.2.2.2.2.1) (q864 G.2.2.2.2.1) ci_9 k_this rfl rfl (Nat.le_of_ble_eq_true rfl) ⟨Nat.le_trans (Nat.le_of_ble_eq_true rfl) hR.1, Nat.le_trans (Nat.le_of_ble_eq_true rfl) hR.2⟩ ⟨Nat.zero_le _, Nat.zero_le _⟩ rfl rfl dX10_letters_42 ?_
          obtain ⟨b21, h⟩ := gd_e h
          obtain ⟨V22, e23, h⟩ := lt_e h
          refine g_iast (pc := 45) G k18 b21 e23 dX10_letters_45 ?_
          refine g_aload_n (pc := 46) G dX10_letters_46 0 rfl ?_
          refine g_dup (pc := 47) G dX10_letters_47 rfl ?_
          refine g_getI (pc := 48) G ci_9 (uw_9 G.2.2.2.2.1) (k := 2) (by decide) rfl rfl k_this (q776 G.2.2.2.2.1) dX10_letters_48 ?_
          refine g_iconst (pc := 51) G (v := 1) dX10_letters_51 (by decide) ?_
          refine g_iadd (pc := 52) G dX10_letters_52 ?_
          obtain ⟨V24, e25, h⟩ := lt_e h
          refine g_putI (pc := 53) G ci_9 (uw_9 G.2.2.2.2.1) (k := 2) (by decide) rfl rfl k_this rfl ⟨rfl, rfl⟩ (q776 G.2.2.2.2.1) e25 dX10_letters_53 ?_
          refine g_iinc (v := v2 + 1) (L' := [(3, .int (v2 + 1)), (0, rv b (some this)), (1, .int p1), (2, .int p2)]) (pc := 56) G dX10_letters_56 3 rfl rfl (by decide) rfl ?_
          refine g_goto (pc := 59) G 2 dX10_letters_59 (by decide) ?_
          exact g_sub [1, 2, 3, 0] rfl (ih4 _ _ _ _ h K8)
  obtain ⟨y6, V7, e26, h⟩ := bd2_e h
  refine g_sub [1, 2, 3, 0] rfl (LP5 _ _ _ _ _ e26 ?_)
  refine g_aload_n (pc := 62) G dX10_letters_62 0 rfl ?_
  obtain ⟨r27, e28, h⟩ := bd_e h
  obtain ⟨f29, k30⟩ := ck_e e28
  refine g_getR (pc := 63) G ci_9 (uw_9 G.2.2.2.2.1) (k := 4) (by decide) rfl rfl k_this (q778 G.2.2.2.2.1) dX10_letters_63 f29 ?_
  refine g_iload_n (pc := 66) G dX10_letters_66 1 rfl ?_
  refine g_iload_n (pc := 67) G dX10_letters_67 2 rfl ?_
  obtain ⟨b31, h⟩ := gd_e h
  obtain ⟨V32, e33, h⟩ := lt_e h
  refine g_iast (pc := 68) G k30 b31 e33 dX10_letters_68 ?_
  refine g_iload_n (pc := 69) G dX10_letters_69 2 rfl ?_
  refine g_if_le (pc := 70) G 77 dX10_letters_70 (by decide) (fun c34 => ?_) (fun c34 => ?_)
  · rw [if_pos c34] at h
    refine g_iconst (pc := 77) G (v := 0) dX10_letters_77 (by decide) ?_
    cases h
    exact g_zret (pc := 78) G rfl dX10_letters_78
  · rw [if_neg c34] at h
    refine g_iconst (pc := 73) G (v := 1) dX10_letters_73 (by decide) ?_
    refine g_goto (pc := 74) G 78 dX10_letters_74 (by decide) ?_
    cases h
    exact g_zret (pc := 78) G rfl dX10_letters_78
theorem c_Mo_letters (l : Launch) (D : va_G) (ca : Nat → ClassId) (b : Nat) {T : Tx} {V : Vx} {this : Nat} {p1 : Int32} {p2 : Int32} {rr : Int32} {Vf : Vx} (k_this : kd T this = 9) (h : Mo_letters T V this p1 p2 = some (rr, Vf)) : MG l yX10_letters cX10_letters 4 (Option.some Jvm.ClassFile.FieldType.boolean) 1 25 0 0 D ca b [rv b (some this), .int p1, .int p2] T V (some (.int rr)) T Vf :=
  MG.ofWG (L := [(0, rv b (some this)), (1, .int p1), (2, .int p2)]) (by decide +kernel) rfl (Nat.le_of_ble_eq_true rfl) (fun _ _ _ _ _ _ _ G _ => w_Mo_letters G ⟨Nat.le_refl _, Nat.le_refl _⟩ k_this h)
set_option maxHeartbeats 4000000 in
set_option maxRecDepth 100000 in
theorem w_Mo_wordItem {p : Program} {l : Launch} {e : Env} {R : Room} {s : State} {m : MethodId} {args : Array Value} {below : List Frame} {meth : Method} {c : Code} {D : va_G} {ca : Nat → ClassId} {b : Nat} {T : Tx} {V : Vx} (G : GX p s m meth c cX10_wordItem 7 (Option.some Jvm.ClassFile.FieldType.boolean) RX10 "wordItem" D ca b) (hR : 2 ≤ R.frames ∧ 48 ≤ R.locals) {this : Nat} {rr : Int32} {Vf : Vx} (k_this : kd T this = 9) (h : Mo_wordItem T V this = some (rr, Vf)) : WG p l e R s m args below meth c D ca b 7 (QG D ca b (some (.int rr)) T Vf below args s 0 0) 0 0 T V 0 [(0, rv b (some this))] [] := by
  unfold Mo_wordItem at h
  refine g_aload_n (pc := 0) G dX10_wordItem_0 0 rfl ?_
  obtain ⟨r1, e2, h⟩ := bd_e h
  obtain ⟨f3, k4⟩ := ck_e e2
  refine g_getR (pc := 1) G ci_9 (uw_9 G.2.2.2.2.1) (k := 4) (by decide) rfl rfl k_this (q778 G.2.2.2.2.1) dX10_wordItem_1 f3 ?_
  refine g_sipush (pc := 4) G (v := 165) dX10_wordItem_4 (by decide) ?_
  obtain ⟨b5, h⟩ := gd_e h
  refine g_iald (pc := 7) G k4 b5 dX10_wordItem_7 ?_
  obtain ⟨x6, e7, h⟩ := lt_e h
  rw [e7]
  refine g_istore_n (L' := [(1, .int x6), (0, rv b (some this))]) (pc := 8) G dX10_wordItem_8 (by decide) rfl ?_
  refine g_bipush (pc := 9) G (v := 84) dX10_wordItem_9 (by decide) ?_
  refine g_bipush (pc := 11) G (v := 10) dX10_wordItem_11 (by decide) ?_
  refine g_iload_n (pc := 13) G dX10_wordItem_13 0 rfl ?_
  refine g_imul (pc := 14) G dX10_wordItem_14 ?_
  refine g_iadd (pc := 15) G dX10_wordItem_15 ?_
  obtain ⟨x8, e9, h⟩ := lt_e h
  rw [e9]
  refine g_istore_n (L' := [(2, .int x8), (1, .int x6), (0, rv b (some this))]) (pc := 16) G dX10_wordItem_16 (by decide) rfl ?_
  refine g_iload_n (pc := 17) G dX10_wordItem_17 1 rfl ?_
  refine g_bipush (pc := 18) G (v := 8) dX10_wordItem_18 (by decide) ?_
  refine g_icmp_ne (pc := 20) G 25 dX10_wordItem_20 (by decide) (fun c10 => ?_) (fun c10 => ?_)
  · rw [if_neg c10] at h
    refine g_aload_n (pc := 25) G dX10_wordItem_25 2 rfl ?_
    obtain ⟨r11, e12, h⟩ := bd_e h
    obtain ⟨f13, k14⟩ := ck_e e12
    refine g_getR (pc := 26) G ci_9 (uw_9 G.2.2.2.2.1) (k := 4) (by decide) rfl rfl k_this (q778 G.2.2.2.2.1) dX10_wordItem_26 f13 ?_
    refine g_sipush (pc := 29) G (v := 165) dX10_wordItem_29 (by decide) ?_
    refine g_dup2 (pc := 32) G dX10_wordItem_32 rfl rfl ?_
    obtain ⟨b15, h⟩ := gd_e h
    refine g_iald (pc := 33) G k14 b15 dX10_wordItem_33 ?_
    refine g_iconst (pc := 34) G (v := 1) dX10_wordItem_34 (by decide) ?_
    refine g_iadd (pc := 35) G dX10_wordItem_35 ?_
    obtain ⟨b16, h⟩ := gd_e h
    obtain ⟨V17, e18, h⟩ := lt_e h
    refine g_iast (pc := 36) G k14 b16 e18 dX10_wordItem_36 ?_
    refine g_aload_n (pc := 37) G dX10_wordItem_37 2 rfl ?_
    refine g_iload_n (pc := 38) G dX10_wordItem_38 0 rfl ?_
    refine g_iconst (pc := 39) G (v := 5) dX10_wordItem_39 (by decide) ?_
    obtain ⟨r21, V20, e19, h⟩ := bd2_e h
    refine g_callV (pc := 40) (As := [.int x8, .int 5]) (rest := []) (st2 := [.int r21]) G (c_Mo_figure l D ca b k_this e19) (mb_Mo_figure G.2.2.2.2.1) (q862 G.2.2.2.2.1) (q20 G.2.2.2.2.1) (q860 G.2.2.2.2.1) ci_9 k_this rfl rfl (Nat.le_of_ble_eq_true rfl) ⟨Nat.le_trans (Nat.le_of_ble_eq_true rfl) hR.1, Nat.le_trans (Nat.le_of_ble_eq_true rfl) hR.2⟩ ⟨Nat.zero_le _, Nat.zero_le _⟩ rfl rfl dX10_wordItem_40 ?_
    refine g_if_eq (pc := 43) G 67 dX10_wordItem_43 (by decide) (fun c22 => ?_) (fun c22 => ?_)
    · rw [if_pos c22] at h
      refine g_iconst (pc := 67) G (v := 0) dX10_wordItem_67 (by decide) ?_
      cases h
      exact g_zret (pc := 68) G rfl dX10_wordItem_68
    · rw [if_neg c22] at h
      refine g_aload_n (pc := 46) G dX10_wordItem_46 2 rfl ?_
      refine g_bipush (pc := 47) G (v := 44) dX10_wordItem_47 (by decide) ?_
      obtain ⟨r25, V24, e23, h⟩ := bd2_e h
      refine g_callV (pc := 49) (As := [.int 44]) (rest := []) (st2 := [.int r25]) G (c_Mo_gone l D ca b k_this e23) (mb_Mo_gone G.2.2.2.2.1) (q870 G.2.2.2.2.1) (q22 G.2.2.2.2.1) (q868 G.2.2.2.2.1) ci_9 k_this rfl rfl (Nat.le_of_ble_eq_true rfl) ⟨Nat.le_trans (Nat.le_of_ble_eq_true rfl) hR.1, Nat.le_trans (Nat.le_of_ble_eq_true rfl) hR.2⟩ ⟨Nat.zero_le _, Nat.zero_le _⟩ rfl rfl dX10_wordItem_49 ?_
      refine g_if_eq (pc := 52) G 67 dX10_wordItem_52 (by decide) (fun c26 => ?_) (fun c26 => ?_)
      · rw [if_pos c26] at h
        refine g_iconst (pc := 67) G (v := 0) dX10_wordItem_67 (by decide) ?_
        cases h
        exact g_zret (pc := 68) G rfl dX10_wordItem_68
      · rw [if_neg c26] at h
        refine g_aload_n (pc := 55) G dX10_wordItem_55 2 rfl ?_
        refine g_iload_n (pc := 56) G dX10_wordItem_56 0 rfl ?_
        refine g_iconst (pc := 57) G (v := 1) dX10_wordItem_57 (by decide) ?_
        refine g_iadd (pc := 58) G dX10_wordItem_58 ?_
        refine g_bipush (pc := 59) G (v := 8) dX10_wordItem_59 (by decide) ?_
        obtain ⟨r29, V28, e27, h⟩ := bd2_e h
        refine g_callV (pc := 61) (As := [.int (x8 + 1), .int 8]) (rest := []) (st2 := [.int r29]) G (c_Mo_letters l D ca b k_this e27) (mb_Mo_letters G.2.2.2.2.1) (q874 G.2.2.2.2.1) (q23 G.2.2.2.2.1) (q872 G.2.2.2.2.1) ci_9 k_this rfl rfl (Nat.le_of_ble_eq_true rfl) ⟨Nat.le_trans (Nat.le_of_ble_eq_true rfl) hR.1, Nat.le_trans (Nat.le_of_ble_eq_true rfl) hR.2⟩ ⟨Nat.zero_le _, Nat.zero_le _⟩ rfl rfl dX10_wordItem_61 ?_
        refine g_if_ne (pc := 64) G 69 dX10_wordItem_64 (by decide) (fun c30 => ?_) (fun c30 => ?_)
        · rw [if_neg c30] at h
          refine g_iconst (pc := 69) G (v := 0) dX10_wordItem_69 (by decide) ?_
          refine g_istore_n (L' := [(3, .int 0), (2, .int x8), (1, .int x6), (0, rv b (some this))]) (pc := 70) G dX10_wordItem_70 (by decide) rfl ?_
          have LP34 : ∀ (n31 : Nat) (v32 : Int32), Mo_wordItem_L71 T V28 this x6 x8 n31 v32 = some (rr, Vf) → WG p l e R s m args below meth c D ca b 7 (QG D ca b (some (.int rr)) T Vf below args s 0 0) 0 0 T V28 71 [(0, rv b (some this)), (1, .int x6), (2, .int x8), (3, .int v32)] [] := by
            intro n31
            induction n31 with
            | zero =>
              intro v32 h
              cases h
            | succ n31 ih33 =>
              intro v32 h
              rw [Mo_wordItem_L71] at h
              refine g_iload_n (pc := 71) G dX10_wordItem_71 3 rfl ?_
              refine g_iload_n (pc := 72) G dX10_wordItem_72 1 rfl ?_
              refine g_icmp_ge (pc := 73) G 159 dX10_wordItem_73 (by decide) (fun c35 => ?_) (fun c35 => ?_)
              · rw [if_pos c35] at h
                refine g_iconst (pc := 159) G (v := 1) dX10_wordItem_159 (by decide) ?_
                cases h
                exact g_zret (pc := 160) G rfl dX10_wordItem_160
              · rw [if_neg c35] at h
                refine g_bipush (pc := 76) G (v := 84) dX10_wordItem_76 (by decide) ?_
                refine g_bipush (pc := 78) G (v := 10) dX10_wordItem_78 (by decide) ?_
                refine g_iload_n (pc := 80) G dX10_wordItem_80 3 rfl ?_
                refine g_imul (pc := 81) G dX10_wordItem_81 ?_
                refine g_iadd (pc := 82) G dX10_wordItem_82 ?_
                obtain ⟨x36, e37, h⟩ := lt_e h
                rw [e37]
                refine g_istore (L' := [(4, .int x36), (0, rv b (some this)), (1, .int x6), (2, .int x8), (3, .int v32)]) (pc := 83) G dX10_wordItem_83 (by decide) rfl ?_
                refine g_iconst (pc := 85) G (v := 1) dX10_wordItem_85 (by decide) ?_
                refine g_istore (L' := [(5, .int 1), (4, .int x36), (0, rv b (some this)), (1, .int x6), (2, .int x8), (3, .int v32)]) (pc := 86) G dX10_wordItem_86 (by decide) rfl ?_
                refine g_iconst (pc := 88) G (v := 0) dX10_wordItem_88 (by decide) ?_
                refine g_istore (L' := [(6, .int 0), (5, .int 1), (4, .int x36), (0, rv b (some this)), (1, .int x6), (2, .int x8), (3, .int v32)]) (pc := 89) G dX10_wordItem_89 (by decide) rfl ?_
                have LP42 : ∀ (n38 : Nat) (v39 : Int32) (v40 : Int32) (y43 : Int32), Mo_wordItem_L91 T V28 this x6 x8 v32 x36 n38 v39 v40 = some (y43) → WG p l e R s m args below meth c D ca b 7 (QG D ca b (some (.int rr)) T Vf below args s 0 0) 0 0 T V28 146 [(0, rv b (some this)), (1, .int x6), (2, .int x8), (3, .int v32), (5, .int y43)] [] → WG p l e R s m args below meth c D ca b 7 (QG D ca b (some (.int rr)) T Vf below args s 0 0) 0 0 T V28 91 [(0, rv b (some this)), (1, .int x6), (2, .int x8), (3, .int v32), (4, .int x36), (5, .int v39), (6, .int v40)] [] := by
                  intro n38
                  induction n38 with
                  | zero =>
                    intro v39 v40 y43 h
                    cases h
                  | succ n38 ih41 =>
                    intro v39 v40 y43 h K44
                    rw [Mo_wordItem_L91] at h
                    refine g_iload (pc := 91) G dX10_wordItem_91 6 rfl ?_
                    refine g_iconst (pc := 93) G (v := 2) dX10_wordItem_93 (by decide) ?_
                    refine g_aload_n (pc := 94) G dX10_wordItem_94 0 rfl ?_
                    obtain ⟨r45, e46, h⟩ := bd_e h
                    obtain ⟨f47, k48⟩ := ck_e e46
                    refine g_getR (pc := 95) G ci_9 (uw_9 G.2.2.2.2.1) (k := 4) (by decide) rfl rfl k_this (q778 G.2.2.2.2.1) dX10_wordItem_95 f47 ?_
                    refine g_iload_n (pc := 98) G dX10_wordItem_98 2 rfl ?_
                    refine g_iconst (pc := 99) G (v := 1) dX10_wordItem_99 (by decide) ?_
                    refine g_iadd (pc := 100) G dX10_wordItem_100 ?_
                    obtain ⟨b49, h⟩ := gd_e h
                    refine g_iald (pc := 101) G k48 b49 dX10_wordItem_101 ?_
                    refine g_iadd (pc := 102) G dX10_wordItem_102 ?_
                    refine g_icmp_ge (pc := 103) G 146 dX10_wordItem_103 (by decide) (fun c50 => ?_) (fun c50 => ?_)
                    · rw [if_pos c50] at h
                      cases h
                      exact g_sub [0, 1, 2, 3, 5] rfl K44
                    · rw [if_neg c50] at h
                      refine g_iload (pc := 106) G dX10_wordItem_106 5 rfl ?_
                      refine g_if_eq (pc := 108) G 137 dX10_wordItem_108 (by decide) (fun c51 => ?_) (fun c51 => ?_)
                      · rw [if_pos c51] at h
                        refine g_iconst (pc := 137) G (v := 0) dX10_wordItem_137 (by decide) ?_
                        refine g_istore (L' := [(5, .int 0), (0, rv b (some this)), (1, .int x6), (2, .int x8), (3, .int v32), (4, .int x36), (6, .int v40)]) (pc := 138) G dX10_wordItem_138 (by decide) rfl ?_
                        refine g_iinc (v := v40 + 1) (L' := [(6, .int (v40 + 1)), (5, .int 0), (0, rv b (some this)), (1, .int x6), (2, .int x8), (3, .int v32), (4, .int x36)]) (pc := 140) G dX10_wordItem_140 6 rfl rfl (by decide) rfl ?_
                        refine g_goto (pc := 143) G 91 dX10_wordItem_143 (by decide) ?_
                        exact g_sub [2, 3, 4, 5, 6, 1, 0] rfl (ih41 _ _ _ h K44)
                      · rw [if_neg c51] at h
                        refine g_aload_n (pc := 111) G dX10_wordItem_111 0 rfl ?_
                        obtain ⟨r52, e53, h⟩ := bd_e h
                        obtain ⟨f54, k55⟩ := ck_e e53
                        refine g_getR (pc := 112) G ci_9 (uw_9 G.2.2.2.2.1) (k := 4) (by decide) rfl rfl k_this (q778 G.2.2.2.2.1) dX10_wordItem_112 f54 ?_
                        refine g_iload_n (pc := 115) G dX10_wordItem_115 2 rfl ?_
                        refine g_iload (pc := 116) G dX10_wordItem_116 6 rfl ?_
                        refine g_iadd (pc := 118) G dX10_wordItem_118 ?_
                        obtain ⟨b56, h⟩ := gd_e h
                        refine g_iald (pc := 119) G k55 b56 dX10_wordItem_119 ?_
                        refine g_aload_n (pc := 120) G dX10_wordItem_120 0 rfl ?_
                        obtain ⟨r57, e58, h⟩ := bd_e h
                        obtain ⟨f59, k60⟩ := ck_e e58
                        refine g_getR (pc := 121) G ci_9 (uw_9 G.2.2.2.2.1) (k := 4) (by decide) rfl rfl k_this (q778 G.2.2.2.2.1) dX10_wordItem_121 f59 ?_
                        refine g_iload (pc := 124) G dX10_wordItem_124 4 rfl ?_
                        refine g_iload (pc := 126) G dX10_wordItem_126 6 rfl ?_
                        refine g_iadd (pc := 128) G dX10_wordItem_128 ?_
                        obtain ⟨b61, h⟩ := gd_e h
                        refine g_iald (pc := 129) G k60 b61 dX10_wordItem_129 ?_
                        refine g_icmp_ne (pc := 130) G 137 dX10_wordItem_130 (by decide) (fun c62 => ?_) (fun c62 => ?_)
                        · rw [if_neg c62] at h
                          refine g_iconst (pc := 137) G (v := 0) dX10_wordItem_137 (by decide) ?_
                          refine g_istore (L' := [(5, .int 0), (0, rv b (some this)), (1, .int x6), (2, .int x8), (3, .int v32), (4, .int x36), (6, .int v40)]) (pc := 138) G dX10_wordItem_138 (by decide) rfl ?_
                          refine g_iinc (v := v40 + 1) (L' := [(6, .int (v40 + 1)), (5, .int 0), (0, rv b (some this)), (1, .int x6), (2, .int x8), (3, .int v32), (4, .int x36)]) (pc := 140) G dX10_wordItem_140 6 rfl rfl (by decide) rfl ?_
                          refine g_goto (pc := 143) G 91 dX10_wordItem_143 (by decide) ?_
                          exact g_sub [2, 3, 4, 5, 6, 1, 0] rfl (ih41 _ _ _ h K44)
                        · rw [if_pos c62] at h
                          refine g_iconst (pc := 133) G (v := 1) dX10_wordItem_133 (by decide) ?_
                          refine g_goto (pc := 134) G 138 dX10_wordItem_134 (by decide) ?_
                          refine g_istore (L' := [(5, .int 1), (0, rv b (some this)), (1, .int x6), (2, .int x8), (3, .int v32), (4, .int x36), (6, .int v40)]) (pc := 138) G dX10_wordItem_138 (by decide) rfl ?_
                          refine g_iinc (v := v40 + 1) (L' := [(6, .int (v40 + 1)), (5, .int 1), (0, rv b (some this)), (1, .int x6), (2, .int x8), (3, .int v32), (4, .int x36)]) (pc := 140) G dX10_wordItem_140 6 rfl rfl (by decide) rfl ?_
                          refine g_goto (pc := 143) G 91 dX10_wordItem_143 (by decide) ?_
                          exact g_sub [2, 3, 4, 5, 6, 1, 0] rfl (ih41 _ _ _ h K44)
                obtain ⟨y43, e63, h⟩ := bd_e h
                refine g_sub [3, 4, 5, 6, 2, 1, 0] rfl (LP42 _ _ _ _ e63 ?_)
                refine g_iload (pc := 146) G dX10_wordItem_146 4 rfl ?_
                refine g_if_eq (pc := 148) G 153 dX10_wordItem_148 (by decide) (fun c64 => ?_) (fun c64 => ?_)
                · rw [if_pos c64] at h
                  refine g_iinc (v := v32 + 1) (L' := [(3, .int (v32 + 1)), (0, rv b (some this)), (1, .int x6), (2, .int x8), (5, .int y43)]) (pc := 153) G dX10_wordItem_153 3 rfl rfl (by decide) rfl ?_
                  refine g_goto (pc := 156) G 71 dX10_wordItem_156 (by decide) ?_
                  exact g_sub [1, 2, 3, 0] rfl (ih33 _ h)
                · rw [if_neg c64] at h
                  refine g_iconst (pc := 151) G (v := 0) dX10_wordItem_151 (by decide) ?_
                  cases h
                  exact g_zret (pc := 152) G rfl dX10_wordItem_152
          exact g_sub [3, 2, 1, 0] rfl (LP34 _ _ h)
        · rw [if_pos c30] at h
          refine g_iconst (pc := 67) G (v := 0) dX10_wordItem_67 (by decide) ?_
          cases h
          exact g_zret (pc := 68) G rfl dX10_wordItem_68
  · rw [if_pos c10] at h
    refine g_iconst (pc := 23) G (v := 0) dX10_wordItem_23 (by decide) ?_
    cases h
    exact g_zret (pc := 24) G rfl dX10_wordItem_24
theorem c_Mo_wordItem (l : Launch) (D : va_G) (ca : Nat → ClassId) (b : Nat) {T : Tx} {V : Vx} {this : Nat} {rr : Int32} {Vf : Vx} (k_this : kd T this = 9) (h : Mo_wordItem T V this = some (rr, Vf)) : MG l yX10_wordItem cX10_wordItem 7 (Option.some Jvm.ClassFile.FieldType.boolean) 2 48 0 0 D ca b [rv b (some this)] T V (some (.int rr)) T Vf :=
  MG.ofWG (L := [(0, rv b (some this))]) (by decide +kernel) rfl (Nat.le_of_ble_eq_true rfl) (fun _ _ _ _ _ _ _ G _ => w_Mo_wordItem G ⟨Nat.le_refl _, Nat.le_refl _⟩ k_this h)
set_option maxHeartbeats 4000000 in
set_option maxRecDepth 100000 in
theorem w_Mo_signItem {p : Program} {l : Launch} {e : Env} {R : Room} {s : State} {m : MethodId} {args : Array Value} {below : List Frame} {meth : Method} {c : Code} {D : va_G} {ca : Nat → ClassId} {b : Nat} {T : Tx} {V : Vx} (G : GX p s m meth c cX10_signItem 3 (Option.some Jvm.ClassFile.FieldType.boolean) RX10 "signItem" D ca b) (hR : 2 ≤ R.frames ∧ 48 ≤ R.locals) {this : Nat} {p1 : Int32} {rr : Int32} {Vf : Vx} (k_this : kd T this = 9) (h : Mo_signItem T V this p1 = some (rr, Vf)) : WG p l e R s m args below meth c D ca b 3 (QG D ca b (some (.int rr)) T Vf below args s 0 0) 0 0 T V 0 [(0, rv b (some this)), (1, .int p1)] [] := by
  unfold Mo_signItem at h
  refine g_bipush (pc := 0) G (v := 7) dX10_signItem_0 (by decide) ?_
  refine g_aload_n (pc := 2) G dX10_signItem_2 0 rfl ?_
  obtain ⟨r1, e2, h⟩ := bd_e h
  obtain ⟨f3, k4⟩ := ck_e e2
  refine g_getR (pc := 3) G ci_9 (uw_9 G.2.2.2.2.1) (k := 4) (by decide) rfl rfl k_this (q778 G.2.2.2.2.1) dX10_signItem_3 f3 ?_
  refine g_sipush (pc := 6) G (v := 164) dX10_signItem_6 (by decide) ?_
  obtain ⟨b5, h⟩ := gd_e h
  refine g_iald (pc := 9) G k4 b5 dX10_signItem_9 ?_
  refine g_imul (pc := 10) G dX10_signItem_10 ?_
  obtain ⟨x6, e7, h⟩ := lt_e h
  rw [e7]
  refine g_istore_n (L' := [(2, .int x6), (0, rv b (some this)), (1, .int p1)]) (pc := 11) G dX10_signItem_11 (by decide) rfl ?_
  refine g_aload_n (pc := 12) G dX10_signItem_12 1 rfl ?_
  obtain ⟨r8, e9, h⟩ := bd_e h
  obtain ⟨f10, k11⟩ := ck_e e9
  refine g_getR (pc := 13) G ci_9 (uw_9 G.2.2.2.2.1) (k := 4) (by decide) rfl rfl k_this (q778 G.2.2.2.2.1) dX10_signItem_13 f10 ?_
  refine g_sipush (pc := 16) G (v := 164) dX10_signItem_16 (by decide) ?_
  obtain ⟨b12, h⟩ := gd_e h
  refine g_iald (pc := 19) G k11 b12 dX10_signItem_19 ?_
  refine g_bipush (pc := 20) G (v := 12) dX10_signItem_20 (by decide) ?_
  refine g_icmp_ne (pc := 22) G 27 dX10_signItem_22 (by decide) (fun c13 => ?_) (fun c13 => ?_)
  · rw [if_neg c13] at h
    refine g_aload_n (pc := 27) G dX10_signItem_27 1 rfl ?_
    obtain ⟨r14, e15, h⟩ := bd_e h
    obtain ⟨f16, k17⟩ := ck_e e15
    refine g_getR (pc := 28) G ci_9 (uw_9 G.2.2.2.2.1) (k := 4) (by decide) rfl rfl k_this (q778 G.2.2.2.2.1) dX10_signItem_28 f16 ?_
    refine g_sipush (pc := 31) G (v := 164) dX10_signItem_31 (by decide) ?_
    refine g_dup2 (pc := 34) G dX10_signItem_34 rfl rfl ?_
    obtain ⟨b18, h⟩ := gd_e h
    refine g_iald (pc := 35) G k17 b18 dX10_signItem_35 ?_
    refine g_iconst (pc := 36) G (v := 1) dX10_signItem_36 (by decide) ?_
    refine g_iadd (pc := 37) G dX10_signItem_37 ?_
    obtain ⟨b19, h⟩ := gd_e h
    obtain ⟨V20, e21, h⟩ := lt_e h
    refine g_iast (pc := 38) G k17 b19 e21 dX10_signItem_38 ?_
    refine g_aload_n (pc := 39) G dX10_signItem_39 1 rfl ?_
    obtain ⟨r22, e23, h⟩ := bd_e h
    obtain ⟨f24, k25⟩ := ck_e e23
    refine g_getR (pc := 40) G ci_9 (uw_9 G.2.2.2.2.1) (k := 4) (by decide) rfl rfl k_this (q778 G.2.2.2.2.1) dX10_signItem_40 f24 ?_
    refine g_iload_n (pc := 43) G dX10_signItem_43 0 rfl ?_
    refine g_iload_n (pc := 44) G dX10_signItem_44 2 rfl ?_
    refine g_bipush (pc := 45) G (v := 112) dX10_signItem_45 (by decide) ?_
    obtain ⟨x26, hx28, h⟩ := bd_e h
    have K27 : WG p l e R s m args below meth c D ca b 3 (QG D ca b (some (.int rr)) T Vf below args s 0 0) 0 0 T V20 65 [(0, rv b (some this)), (1, .int p1), (2, .int x6)] [.int x26, .int x6, rv b (some r22)] := by
      obtain ⟨b32, h⟩ := gd_e h
      obtain ⟨V33, e34, h⟩ := lt_e h
      refine g_iast (pc := 65) G k25 b32 e34 dX10_signItem_65 ?_
      refine g_aload_n (pc := 66) G dX10_signItem_66 0 rfl ?_
      obtain ⟨r35, e36, h⟩ := bd_e h
      obtain ⟨f37, k38⟩ := ck_e e36
      refine g_getR (pc := 67) G ci_9 (uw_9 G.2.2.2.2.1) (k := 4) (by decide) rfl rfl k_this (q778 G.2.2.2.2.1) dX10_signItem_67 f37 ?_
      refine g_iload_n (pc := 70) G dX10_signItem_70 2 rfl ?_
      refine g_iconst (pc := 71) G (v := 1) dX10_signItem_71 (by decide) ?_
      refine g_iadd (pc := 72) G dX10_signItem_72 ?_
      refine g_bipush (pc := 73) G (v := (-4)) dX10_signItem_73 (by decide) ?_
      obtain ⟨b39, h⟩ := gd_e h
      obtain ⟨V40, e41, h⟩ := lt_e h
      refine g_iast (pc := 75) G k38 b39 e41 dX10_signItem_75 ?_
      refine g_aload_n (pc := 76) G dX10_signItem_76 0 rfl ?_
      obtain ⟨r42, e43, h⟩ := bd_e h
      obtain ⟨f44, k45⟩ := ck_e e43
      refine g_getR (pc := 77) G ci_9 (uw_9 G.2.2.2.2.1) (k := 4) (by decide) rfl rfl k_this (q778 G.2.2.2.2.1) dX10_signItem_77 f44 ?_
      refine g_iload_n (pc := 80) G dX10_signItem_80 2 rfl ?_
      refine g_iconst (pc := 81) G (v := 2) dX10_signItem_81 (by decide) ?_
      refine g_iadd (pc := 82) G dX10_signItem_82 ?_
      refine g_iconst (pc := 83) G (v := 0) dX10_signItem_83 (by decide) ?_
      obtain ⟨b46, h⟩ := gd_e h
      obtain ⟨V47, e48, h⟩ := lt_e h
      refine g_iast (pc := 84) G k45 b46 e48 dX10_signItem_84 ?_
      refine g_iload_n (pc := 85) G dX10_signItem_85 1 rfl ?_
      refine g_bipush (pc := 86) G (v := 109) dX10_signItem_86 (by decide) ?_
      refine g_icmp_ne (pc := 88) G 100 dX10_signItem_88 (by decide) (fun c49 => ?_) (fun c49 => ?_)
      · rw [if_neg c49] at h
        refine g_iload_n (pc := 100) G dX10_signItem_100 1 rfl ?_
        refine g_bipush (pc := 101) G (v := 115) dX10_signItem_101 (by decide) ?_
        refine g_icmp_eq (pc := 103) G 126 dX10_signItem_103 (by decide) (fun c50 => ?_) (fun c50 => ?_)
        · rw [if_pos c50] at h
          refine g_aload_n (pc := 126) G dX10_signItem_126 0 rfl ?_
          refine g_iload_n (pc := 127) G dX10_signItem_127 2 rfl ?_
          refine g_iconst (pc := 128) G (v := 2) dX10_signItem_128 (by decide) ?_
          refine g_iadd (pc := 129) G dX10_signItem_129 ?_
          refine g_iconst (pc := 130) G (v := 4) dX10_signItem_130 (by decide) ?_
          obtain ⟨r53, V52, e51, h⟩ := bd2_e h
          refine g_callV (pc := 131) (As := [.int (x6 + 2), .int 4]) (rest := []) (st2 := [.int r53]) G (c_Mo_letters l D ca b k_this e51) (mb_Mo_letters G.2.2.2.2.1) (q874 G.2.2.2.2.1) (q23 G.2.2.2.2.1) (q872 G.2.2.2.2.1) ci_9 k_this rfl rfl (Nat.le_of_ble_eq_true rfl) ⟨Nat.le_trans (Nat.le_of_ble_eq_true rfl) hR.1, Nat.le_trans (Nat.le_of_ble_eq_true rfl) hR.2⟩ ⟨Nat.zero_le _, Nat.zero_le _⟩ rfl rfl dX10_signItem_131 ?_
          refine g_if_eq (pc := 134) G 141 dX10_signItem_134 (by decide) (fun c54 => ?_) (fun c54 => ?_)
          · rw [if_pos c54] at h
            refine g_iconst (pc := 141) G (v := 0) dX10_signItem_141 (by decide) ?_
            cases h
            exact g_zret (pc := 142) G rfl dX10_signItem_142
          · rw [if_neg c54] at h
            refine g_iconst (pc := 137) G (v := 1) dX10_signItem_137 (by decide) ?_
            refine g_goto (pc := 138) G 142 dX10_signItem_138 (by decide) ?_
            cases h
            exact g_zret (pc := 142) G rfl dX10_signItem_142
        · rw [if_neg c50] at h
          refine g_aload_n (pc := 106) G dX10_signItem_106 0 rfl ?_
          refine g_iload_n (pc := 107) G dX10_signItem_107 2 rfl ?_
          refine g_iconst (pc := 108) G (v := 1) dX10_signItem_108 (by decide) ?_
          refine g_iadd (pc := 109) G dX10_signItem_109 ?_
          refine g_iconst (pc := 110) G (v := 5) dX10_signItem_110 (by decide) ?_
          obtain ⟨r57, V56, e55, h⟩ := bd2_e h
          refine g_callV (pc := 111) (As := [.int (x6 + 1), .int 5]) (rest := []) (st2 := [.int r57]) G (c_Mo_figure l D ca b k_this e55) (mb_Mo_figure G.2.2.2.2.1) (q862 G.2.2.2.2.1) (q20 G.2.2.2.2.1) (q860 G.2.2.2.2.1) ci_9 k_this rfl rfl (Nat.le_of_ble_eq_true rfl) ⟨Nat.le_trans (Nat.le_of_ble_eq_true rfl) hR.1, Nat.le_trans (Nat.le_of_ble_eq_true rfl) hR.2⟩ ⟨Nat.zero_le _, Nat.zero_le _⟩ rfl rfl dX10_signItem_111 ?_
          refine g_if_eq (pc := 114) G 141 dX10_signItem_114 (by decide) (fun c58 => ?_) (fun c58 => ?_)
          · rw [if_pos c58] at h
            refine g_iconst (pc := 141) G (v := 0) dX10_signItem_141 (by decide) ?_
            cases h
            exact g_zret (pc := 142) G rfl dX10_signItem_142
          · rw [if_neg c58] at h
            refine g_aload_n (pc := 117) G dX10_signItem_117 0 rfl ?_
            refine g_bipush (pc := 118) G (v := 44) dX10_signItem_118 (by decide) ?_
            obtain ⟨r61, V60, e59, h⟩ := bd2_e h
            refine g_callV (pc := 120) (As := [.int 44]) (rest := []) (st2 := [.int r61]) G (c_Mo_gone l D ca b k_this e59) (mb_Mo_gone G.2.2.2.2.1) (q870 G.2.2.2.2.1) (q22 G.2.2.2.2.1) (q868 G.2.2.2.2.1) ci_9 k_this rfl rfl (Nat.le_of_ble_eq_true rfl) ⟨Nat.le_trans (Nat.le_of_ble_eq_true rfl) hR.1, Nat.le_trans (Nat.le_of_ble_eq_true rfl) hR.2⟩ ⟨Nat.zero_le _, Nat.zero_le _⟩ rfl rfl dX10_signItem_120 ?_
            refine g_if_eq (pc := 123) G 141 dX10_signItem_123 (by decide) (fun c62 => ?_) (fun c62 => ?_)
            · rw [if_pos c62] at h
              refine g_iconst (pc := 141) G (v := 0) dX10_signItem_141 (by decide) ?_
              cases h
              exact g_zret (pc := 142) G rfl dX10_signItem_142
            · rw [if_neg c62] at h
              refine g_aload_n (pc := 126) G dX10_signItem_126 0 rfl ?_
              refine g_iload_n (pc := 127) G dX10_signItem_127 2 rfl ?_
              refine g_iconst (pc := 128) G (v := 2) dX10_signItem_128 (by decide) ?_
              refine g_iadd (pc := 129) G dX10_signItem_129 ?_
              refine g_iconst (pc := 130) G (v := 4) dX10_signItem_130 (by decide) ?_
              obtain ⟨r65, V64, e63, h⟩ := bd2_e h
              refine g_callV (pc := 131) (As := [.int (x6 + 2), .int 4]) (rest := []) (st2 := [.int r65]) G (c_Mo_letters l D ca b k_this e63) (mb_Mo_letters G.2.2.2.2.1) (q874 G.2.2.2.2.1) (q23 G.2.2.2.2.1) (q872 G.2.2.2.2.1) ci_9 k_this rfl rfl (Nat.le_of_ble_eq_true rfl) ⟨Nat.le_trans (Nat.le_of_ble_eq_true rfl) hR.1, Nat.le_trans (Nat.le_of_ble_eq_true rfl) hR.2⟩ ⟨Nat.zero_le _, Nat.zero_le _⟩ rfl rfl dX10_signItem_131 ?_
              refine g_if_eq (pc := 134) G 141 dX10_signItem_134 (by decide) (fun c66 => ?_) (fun c66 => ?_)
              · rw [if_pos c66] at h
                refine g_iconst (pc := 141) G (v := 0) dX10_signItem_141 (by decide) ?_
                cases h
                exact g_zret (pc := 142) G rfl dX10_signItem_142
              · rw [if_neg c66] at h
                refine g_iconst (pc := 137) G (v := 1) dX10_signItem_137 (by decide) ?_
                refine g_goto (pc := 138) G 142 dX10_signItem_138 (by decide) ?_
                cases h
                exact g_zret (pc := 142) G rfl dX10_signItem_142
      · rw [if_pos c49] at h
        refine g_aload_n (pc := 91) G dX10_signItem_91 0 rfl ?_
        refine g_iload_n (pc := 92) G dX10_signItem_92 2 rfl ?_
        refine g_iconst (pc := 93) G (v := 1) dX10_signItem_93 (by decide) ?_
        refine g_iadd (pc := 94) G dX10_signItem_94 ?_
        refine g_iconst (pc := 95) G (v := 5) dX10_signItem_95 (by decide) ?_
        obtain ⟨r69, V68, e67, h⟩ := bd2_e h
        refine g_callV (pc := 96) (As := [.int (x6 + 1), .int 5]) (rest := []) (st2 := [.int r69]) G (c_Mo_figure l D ca b k_this e67) (mb_Mo_figure G.2.2.2.2.1) (q862 G.2.2.2.2.1) (q20 G.2.2.2.2.1) (q860 G.2.2.2.2.1) ci_9 k_this rfl rfl (Nat.le_of_ble_eq_true rfl) ⟨Nat.le_trans (Nat.le_of_ble_eq_true rfl) hR.1, Nat.le_trans (Nat.le_of_ble_eq_true rfl) hR.2⟩ ⟨Nat.zero_le _, Nat.zero_le _⟩ rfl rfl dX10_signItem_96 ?_
        obtain ⟨z70, h⟩ := gd_e h
        cases h
        exact g_zret (pc := 99) G z70 dX10_signItem_99
    refine g_icmp_ne (pc := 47) G 54 dX10_signItem_47 (by decide) (fun c30 => ?_) (fun c30 => ?_)
    · rw [if_neg c30] at hx28
      refine g_iload_n (pc := 54) G dX10_signItem_54 2 rfl ?_
      refine g_bipush (pc := 55) G (v := 115) dX10_signItem_55 (by decide) ?_
      refine g_icmp_ne (pc := 57) G 64 dX10_signItem_57 (by decide) (fun c31 => ?_) (fun c31 => ?_)
      · rw [if_neg c31] at hx28
        refine g_iconst (pc := 64) G (v := 2) dX10_signItem_64 (by decide) ?_
        cases hx28
        exact g_sub [1, 2, 0] rfl K27
      · rw [if_pos c31] at hx28
        refine g_iconst (pc := 60) G (v := 1) dX10_signItem_60 (by decide) ?_
        refine g_goto (pc := 61) G 65 dX10_signItem_61 (by decide) ?_
        cases hx28
        exact g_sub [1, 2, 0] rfl K27
    · rw [if_pos c30] at hx28
      refine g_iconst (pc := 50) G (v := 0) dX10_signItem_50 (by decide) ?_
      refine g_goto (pc := 51) G 65 dX10_signItem_51 (by decide) ?_
      cases hx28
      exact g_sub [1, 2, 0] rfl K27
  · rw [if_pos c13] at h
    refine g_iconst (pc := 25) G (v := 0) dX10_signItem_25 (by decide) ?_
    cases h
    exact g_zret (pc := 26) G rfl dX10_signItem_26
theorem c_Mo_signItem (l : Launch) (D : va_G) (ca : Nat → ClassId) (b : Nat) {T : Tx} {V : Vx} {this : Nat} {p1 : Int32} {rr : Int32} {Vf : Vx} (k_this : kd T this = 9) (h : Mo_signItem T V this p1 = some (rr, Vf)) : MG l yX10_signItem cX10_signItem 3 (Option.some Jvm.ClassFile.FieldType.boolean) 2 48 0 0 D ca b [rv b (some this), .int p1] T V (some (.int rr)) T Vf :=
  MG.ofWG (L := [(0, rv b (some this)), (1, .int p1)]) (by decide +kernel) rfl (Nat.le_of_ble_eq_true rfl) (fun _ _ _ _ _ _ _ G _ => w_Mo_signItem G ⟨Nat.le_refl _, Nat.le_refl _⟩ k_this h)
set_option maxHeartbeats 4000000 in
set_option maxRecDepth 100000 in
theorem w_Mo_item {p : Program} {l : Launch} {e : Env} {R : Room} {s : State} {m : MethodId} {args : Array Value} {below : List Frame} {meth : Method} {c : Code} {D : va_G} {ca : Nat → ClassId} {b : Nat} {T : Tx} {V : Vx} (G : GX p s m meth c cX10_item 2 (Option.some Jvm.ClassFile.FieldType.boolean) RX10 "item" D ca b) (hR : 3 ≤ R.frames ∧ 74 ≤ R.locals) {this : Nat} {p1 : Int32} {rr : Int32} {Vf : Vx} (k_this : kd T this = 9) (h : Mo_item T V this p1 = some (rr, Vf)) : WG p l e R s m args below meth c D ca b 2 (QG D ca b (some (.int rr)) T Vf below args s 0 0) 0 0 T V 0 [(0, rv b (some this)), (1, .int p1)] [] := by
  unfold Mo_item at h
  refine g_iload_n (pc := 0) G dX10_item_0 1 rfl ?_
  by_cases c1 : p1 = 107
  · rw [if_pos c1] at h
    have K6 : WG p l e R s m args below meth c D ca b 2 (QG D ca b (some (.int rr)) T Vf below args s 0 0) 0 0 T V 79 [(0, rv b (some this)), (1, .int p1)] [] := by
      refine g_aload_n (pc := 79) G dX10_item_79 0 rfl ?_
      refine g_sipush (pc := 80) G (v := 166) dX10_item_80 (by decide) ?_
      refine g_iconst (pc := 83) G (v := 1) dX10_item_83 (by decide) ?_
      obtain ⟨r4, V3, e2, h⟩ := bd2_e h
      refine g_callV (pc := 84) (As := [.int 166, .int 1]) (rest := []) (st2 := [.int r4]) G (c_Mo_figure l D ca b k_this e2) (mb_Mo_figure G.2.2.2.2.1) (q862 G.2.2.2.2.1) (q20 G.2.2.2.2.1) (q860 G.2.2.2.2.1) ci_9 k_this rfl rfl (Nat.le_of_ble_eq_true rfl) ⟨Nat.le_trans (Nat.le_of_ble_eq_true rfl) hR.1, Nat.le_trans (Nat.le_of_ble_eq_true rfl) hR.2⟩ ⟨Nat.zero_le _, Nat.zero_le _⟩ rfl rfl dX10_item_84 ?_
      obtain ⟨z5, h⟩ := gd_e h
      cases h
      exact g_zret (pc := 87) G z5 dX10_item_87
    exact g_tabI (pc := 1) G 79 dX10_item_1 (by rw [c1] <;> decide) (by rw [c1] <;> decide) (by rw [c1] <;> rfl) (by decide) K6
  · rw [if_neg c1] at h
    by_cases c7 : p1 = 109 ∨ p1 = 112 ∨ p1 = 115
    · rw [if_pos c7] at h
      have K12 : WG p l e R s m args below meth c D ca b 2 (QG D ca b (some (.int rr)) T Vf below args s 0 0) 0 0 T V 68 [(0, rv b (some this)), (1, .int p1)] [] := by
        refine g_aload_n (pc := 68) G dX10_item_68 0 rfl ?_
        refine g_iload_n (pc := 69) G dX10_item_69 1 rfl ?_
        obtain ⟨r10, V9, e8, h⟩ := bd2_e h
        refine g_callV (pc := 70) (As := [.int p1]) (rest := []) (st2 := [.int r10]) G (c_Mo_signItem l D ca b k_this e8) (mb_Mo_signItem G.2.2.2.2.1) (q858 G.2.2.2.2.1) (q19 G.2.2.2.2.1) (q856 G.2.2.2.2.1) ci_9 k_this rfl rfl (Nat.le_of_ble_eq_true rfl) ⟨Nat.le_trans (Nat.le_of_ble_eq_true rfl) hR.1, Nat.le_trans (Nat.le_of_ble_eq_true rfl) hR.2⟩ ⟨Nat.zero_le _, Nat.zero_le _⟩ rfl rfl dX10_item_70 ?_
        obtain ⟨z11, h⟩ := gd_e h
        cases h
        exact g_zret (pc := 73) G z11 dX10_item_73
      rcases c7 with c7 | c7 | c7
      · exact g_tabI (pc := 1) G 68 dX10_item_1 (by rw [c7] <;> decide) (by rw [c7] <;> decide) (by rw [c7] <;> rfl) (by decide) K12
      · exact g_tabI (pc := 1) G 68 dX10_item_1 (by rw [c7] <;> decide) (by rw [c7] <;> decide) (by rw [c7] <;> rfl) (by decide) K12
      · exact g_tabI (pc := 1) G 68 dX10_item_1 (by rw [c7] <;> decide) (by rw [c7] <;> decide) (by rw [c7] <;> rfl) (by decide) K12
    · rw [if_neg c7] at h
      by_cases c13 : p1 = 119
      · rw [if_pos c13] at h
        have K18 : WG p l e R s m args below meth c D ca b 2 (QG D ca b (some (.int rr)) T Vf below args s 0 0) 0 0 T V 74 [(0, rv b (some this)), (1, .int p1)] [] := by
          refine g_aload_n (pc := 74) G dX10_item_74 0 rfl ?_
          obtain ⟨r16, V15, e14, h⟩ := bd2_e h
          refine g_callV (pc := 75) (As := []) (rest := []) (st2 := [.int r16]) G (c_Mo_wordItem l D ca b k_this e14) (mb_Mo_wordItem G.2.2.2.2.1) (q880 G.2.2.2.2.1) (q24 G.2.2.2.2.1) (q878 G.2.2.2.2.1) ci_9 k_this rfl rfl (Nat.le_of_ble_eq_true rfl) ⟨Nat.le_trans (Nat.le_of_ble_eq_true rfl) hR.1, Nat.le_trans (Nat.le_of_ble_eq_true rfl) hR.2⟩ ⟨Nat.zero_le _, Nat.zero_le _⟩ rfl rfl dX10_item_75 ?_
          obtain ⟨z17, h⟩ := gd_e h
          cases h
          exact g_zret (pc := 78) G z17 dX10_item_78
        exact g_tabI (pc := 1) G 74 dX10_item_1 (by rw [c13] <;> decide) (by rw [c13] <;> decide) (by rw [c13] <;> rfl) (by decide) K18
      · rw [if_neg c13] at h
        have K19 : WG p l e R s m args below meth c D ca b 2 (QG D ca b (some (.int rr)) T Vf below args s 0 0) 0 0 T V 88 [(0, rv b (some this)), (1, .int p1)] [] := by
          refine g_iconst (pc := 88) G (v := 0) dX10_item_88 (by decide) ?_
          cases h
          exact g_zret (pc := 89) G rfl dX10_item_89
        by_cases c20 : p1 = 108
        · exact g_tabI (pc := 1) G 88 dX10_item_1 (by rw [c20] <;> decide) (by rw [c20] <;> decide) (by rw [c20] <;> rfl) (by decide) K19
        by_cases c21 : p1 = 110
        · exact g_tabI (pc := 1) G 88 dX10_item_1 (by rw [c21] <;> decide) (by rw [c21] <;> decide) (by rw [c21] <;> rfl) (by decide) K19
        by_cases c22 : p1 = 111
        · exact g_tabI (pc := 1) G 88 dX10_item_1 (by rw [c22] <;> decide) (by rw [c22] <;> decide) (by rw [c22] <;> rfl) (by decide) K19
        by_cases c23 : p1 = 113
        · exact g_tabI (pc := 1) G 88 dX10_item_1 (by rw [c23] <;> decide) (by rw [c23] <;> decide) (by rw [c23] <;> rfl) (by decide) K19
        by_cases c24 : p1 = 114
        · exact g_tabI (pc := 1) G 88 dX10_item_1 (by rw [c24] <;> decide) (by rw [c24] <;> decide) (by rw [c24] <;> rfl) (by decide) K19
        by_cases c25 : p1 = 116
        · exact g_tabI (pc := 1) G 88 dX10_item_1 (by rw [c25] <;> decide) (by rw [c25] <;> decide) (by rw [c25] <;> rfl) (by decide) K19
        by_cases c26 : p1 = 117
        · exact g_tabI (pc := 1) G 88 dX10_item_1 (by rw [c26] <;> decide) (by rw [c26] <;> decide) (by rw [c26] <;> rfl) (by decide) K19
        by_cases c27 : p1 = 118
        · exact g_tabI (pc := 1) G 88 dX10_item_1 (by rw [c27] <;> decide) (by rw [c27] <;> decide) (by rw [c27] <;> rfl) (by decide) K19
        have c28 : ¬ p1 = 109 := fun z => c7 (Or.inl z)
        have c29 : ¬ p1 = 112 := fun z => c7 (Or.inr (Or.inl z))
        have c30 : ¬ p1 = 115 := fun z => c7 (Or.inr (Or.inr (z)))
        have c20T := lv_neT (a := 108) c20 (by decide)
        have c21T := lv_neT (a := 110) c21 (by decide)
        have c22T := lv_neT (a := 111) c22 (by decide)
        have c23T := lv_neT (a := 113) c23 (by decide)
        have c24T := lv_neT (a := 114) c24 (by decide)
        have c25T := lv_neT (a := 116) c25 (by decide)
        have c26T := lv_neT (a := 117) c26 (by decide)
        have c27T := lv_neT (a := 118) c27 (by decide)
        have c1T := lv_neT (a := 107) c1 (by decide)
        have c28T := lv_neT (a := 109) c28 (by decide)
        have c29T := lv_neT (a := 112) c29 (by decide)
        have c30T := lv_neT (a := 115) c30 (by decide)
        have c13T := lv_neT (a := 119) c13 (by decide)
        exact g_tabO (pc := 1) G 88 dX10_item_1 (by omega) (by decide) K19
theorem c_Mo_item (l : Launch) (D : va_G) (ca : Nat → ClassId) (b : Nat) {T : Tx} {V : Vx} {this : Nat} {p1 : Int32} {rr : Int32} {Vf : Vx} (k_this : kd T this = 9) (h : Mo_item T V this p1 = some (rr, Vf)) : MG l yX10_item cX10_item 2 (Option.some Jvm.ClassFile.FieldType.boolean) 3 74 0 0 D ca b [rv b (some this), .int p1] T V (some (.int rr)) T Vf :=
  MG.ofWG (L := [(0, rv b (some this)), (1, .int p1)]) (by decide +kernel) rfl (Nat.le_of_ble_eq_true rfl) (fun _ _ _ _ _ _ _ G _ => w_Mo_item G ⟨Nat.le_refl _, Nat.le_refl _⟩ k_this h)
set_option maxHeartbeats 4000000 in
set_option maxRecDepth 100000 in
theorem w_Mo_fault {p : Program} {l : Launch} {e : Env} {R : Room} {s : State} {m : MethodId} {args : Array Value} {below : List Frame} {meth : Method} {c : Code} {D : va_G} {ca : Nat → ClassId} {b : Nat} {T : Tx} {V : Vx} (G : GX p s m meth c cX10_fault 2 (Option.some Jvm.ClassFile.FieldType.int) RX10 "fault" D ca b) (hR : 4 ≤ R.frames ∧ 95 ≤ R.locals) {this : Nat} {rr : Int32} {Vf : Vx} (k_this : kd T this = 9) (h : Mo_fault T V this = some (rr, Vf)) : WG p l e R s m args below meth c D ca b 2 (QG D ca b (some (.int rr)) T Vf below args s 0 0) 0 0 T V 0 [(0, rv b (some this))] [] := by
  unfold Mo_fault at h
  refine g_iconst (pc := 0) G (v := 0) dX10_fault_0 (by decide) ?_
  refine g_istore_n (L' := [(1, .int 0), (0, rv b (some this))]) (pc := 1) G dX10_fault_1 (by decide) rfl ?_
  have LP5 : ∀ (n1 : Nat) (V3 : Vx) (v2 : Int32) (V6 : Vx), Mo_fault_L2 T this n1 V3 v2 = some (V6) → WG p l e R s m args below meth c D ca b 2 (QG D ca b (some (.int rr)) T Vf below args s 0 0) 0 0 T V6 22 [(0, rv b (some this))] [] → WG p l e R s m args below meth c D ca b 2 (QG D ca b (some (.int rr)) T Vf below args s 0 0) 0 0 T V3 2 [(0, rv b (some this)), (1, .int v2)] [] := by
    intro n1
    induction n1 with
    | zero =>
      intro V3 v2 V6 h
      cases h
    | succ n1 ih4 =>
      intro V3 v2 V6 h K7
      rw [Mo_fault_L2] at h
      refine g_iload_n (pc := 2) G dX10_fault_2 1 rfl ?_
      refine g_sipush (pc := 3) G (v := 167) dX10_fault_3 (by decide) ?_
      refine g_icmp_ge (pc := 6) G 22 dX10_fault_6 (by decide) (fun c8 => ?_) (fun c8 => ?_)
      · rw [if_pos c8] at h
        cases h
        exact g_sub [0] rfl K7
      · rw [if_neg c8] at h
        refine g_aload_n (pc := 9) G dX10_fault_9 0 rfl ?_
        obtain ⟨r9, e10, h⟩ := bd_e h
        obtain ⟨f11, k12⟩ := ck_e e10
        refine g_getR (pc := 10) G ci_9 (uw_9 G.2.2.2.2.1) (k := 4) (by decide) rfl rfl k_this (q778 G.2.2.2.2.1) dX10_fault_10 f11 ?_
        refine g_iload_n (pc := 13) G dX10_fault_13 1 rfl ?_
        refine g_iconst (pc := 14) G (v := 0) dX10_fault_14 (by decide) ?_
        obtain ⟨b13, h⟩ := gd_e h
        obtain ⟨V14, e15, h⟩ := lt_e h
        refine g_iast (pc := 15) G k12 b13 e15 dX10_fault_15 ?_
        refine g_iinc (v := v2 + 1) (L' := [(1, .int (v2 + 1)), (0, rv b (some this))]) (pc := 16) G dX10_fault_16 1 rfl rfl (by decide) rfl ?_
        refine g_goto (pc := 19) G 2 dX10_fault_19 (by decide) ?_
        exact g_sub [1, 0] rfl (ih4 _ _ _ h K7)
  obtain ⟨V6, e16, h⟩ := bd_e h
  refine g_sub [1, 0] rfl (LP5 _ _ _ _ e16 ?_)
  refine g_aload_n (pc := 22) G dX10_fault_22 0 rfl ?_
  refine g_iconst (pc := 23) G (v := 0) dX10_fault_23 (by decide) ?_
  obtain ⟨V17, e18, h⟩ := lt_e h
  refine g_putI (pc := 24) G ci_9 (uw_9 G.2.2.2.2.1) (k := 2) (by decide) rfl rfl k_this rfl ⟨rfl, rfl⟩ (q776 G.2.2.2.2.1) e18 dX10_fault_24 ?_
  have LP22 : ∀ (n19 : Nat) (V20 : Vx), Mo_fault_L27 T this n19 V20 = some (rr, Vf) → WG p l e R s m args below meth c D ca b 2 (QG D ca b (some (.int rr)) T Vf below args s 0 0) 0 0 T V20 27 [(0, rv b (some this))] [] := by
    intro n19
    induction n19 with
    | zero =>
      intro V20 h
      cases h
    | succ n19 ih21 =>
      intro V20 h
      rw [Mo_fault_L27] at h
      refine g_aload_n (pc := 27) G dX10_fault_27 0 rfl ?_
      refine g_getI (pc := 28) G ci_9 (uw_9 G.2.2.2.2.1) (k := 2) (by decide) rfl rfl k_this (q776 G.2.2.2.2.1) dX10_fault_28 ?_
      refine g_aload_n (pc := 31) G dX10_fault_31 0 rfl ?_
      refine g_getI (pc := 32) G ci_9 (uw_9 G.2.2.2.2.1) (k := 0) (by decide) rfl rfl k_this (q774 G.2.2.2.2.1) dX10_fault_32 ?_
      refine g_icmp_ge (pc := 35) G 80 dX10_fault_35 (by decide) (fun c23 => ?_) (fun c23 => ?_)
      · rw [if_pos c23] at h
        refine g_bipush (pc := 80) G (v := (-4)) dX10_fault_80 (by decide) ?_
        cases h
        exact g_iret (pc := 82) G dX10_fault_82
      · rw [if_neg c23] at h
        refine g_aload_n (pc := 38) G dX10_fault_38 0 rfl ?_
        refine g_getI (pc := 39) G ci_9 (uw_9 G.2.2.2.2.1) (k := 2) (by decide) rfl rfl k_this (q776 G.2.2.2.2.1) dX10_fault_39 ?_
        obtain ⟨x24, e25, h⟩ := lt_e h
        rw [e25]
        refine g_istore_n (L' := [(1, .int x24), (0, rv b (some this))]) (pc := 42) G dX10_fault_42 (by decide) rfl ?_
        refine g_aload_n (pc := 43) G dX10_fault_43 1 rfl ?_
        refine g_dup (pc := 44) G dX10_fault_44 rfl ?_
        refine g_getI (pc := 45) G ci_9 (uw_9 G.2.2.2.2.1) (k := 2) (by decide) rfl rfl k_this (q776 G.2.2.2.2.1) dX10_fault_45 ?_
        refine g_iconst (pc := 48) G (v := 1) dX10_fault_48 (by decide) ?_
        refine g_iadd (pc := 49) G dX10_fault_49 ?_
        obtain ⟨V26, e27, h⟩ := lt_e h
        refine g_putI (pc := 50) G ci_9 (uw_9 G.2.2.2.2.1) (k := 2) (by decide) rfl rfl k_this rfl ⟨rfl, rfl⟩ (q776 G.2.2.2.2.1) e27 dX10_fault_50 ?_
        refine g_aload_n (pc := 53) G dX10_fault_53 1 rfl ?_
        refine g_aload_n (pc := 54) G dX10_fault_54 1 rfl ?_
        obtain ⟨r28, e29, h⟩ := bd_e h
        obtain ⟨f30, k31⟩ := ck_e e29
        refine g_getR (pc := 55) G ci_9 (uw_9 G.2.2.2.2.1) (k := 1) (by decide) rfl rfl k_this (q775 G.2.2.2.2.1) dX10_fault_55 f30 ?_
        refine g_iload_n (pc := 58) G dX10_fault_58 0 rfl ?_
        obtain ⟨b32, h⟩ := gd_e h
        refine g_iald (pc := 59) G k31 b32 dX10_fault_59 ?_
        obtain ⟨r35, V34, e33, h⟩ := bd2_e h
        refine g_callV (pc := 60) (As := [.int (aI V26 r28 x24.toNatClampNeg)]) (rest := []) (st2 := [.int r35]) G (c_Mo_item l D ca b k_this e33) (mb_Mo_item G.2.2.2.2.1) (q854 G.2.2.2.2.1) (q18 G.2.2.2.2.1) (q852 G.2.2.2.2.1) ci_9 k_this rfl rfl (Nat.le_of_ble_eq_true rfl) ⟨Nat.le_trans (Nat.le_of_ble_eq_true rfl) hR.1, Nat.le_trans (Nat.le_of_ble_eq_true rfl) hR.2⟩ ⟨Nat.zero_le _, Nat.zero_le _⟩ rfl rfl dX10_fault_60 ?_
        refine g_if_eq (pc := 63) G 75 dX10_fault_63 (by decide) (fun c36 => ?_) (fun c36 => ?_)
        · rw [if_pos c36] at h
          refine g_iload_n (pc := 75) G dX10_fault_75 0 rfl ?_
          cases h
          exact g_iret (pc := 76) G dX10_fault_76
        · rw [if_neg c36] at h
          refine g_aload_n (pc := 66) G dX10_fault_66 1 rfl ?_
          refine g_bipush (pc := 67) G (v := 59) dX10_fault_67 (by decide) ?_
          obtain ⟨r39, V38, e37, h⟩ := bd2_e h
          refine g_callV (pc := 69) (As := [.int 59]) (rest := []) (st2 := [.int r39]) G (c_Mo_gone l D ca b k_this e37) (mb_Mo_gone G.2.2.2.2.1) (q870 G.2.2.2.2.1) (q22 G.2.2.2.2.1) (q868 G.2.2.2.2.1) ci_9 k_this rfl rfl (Nat.le_of_ble_eq_true rfl) ⟨Nat.le_trans (Nat.le_of_ble_eq_true rfl) hR.1, Nat.le_trans (Nat.le_of_ble_eq_true rfl) hR.2⟩ ⟨Nat.zero_le _, Nat.zero_le _⟩ rfl rfl dX10_fault_69 ?_
          refine g_if_ne (pc := 72) G 77 dX10_fault_72 (by decide) (fun c40 => ?_) (fun c40 => ?_)
          · rw [if_neg c40] at h
            refine g_goto (pc := 77) G 27 dX10_fault_77 (by decide) ?_
            exact g_sub [1] rfl (ih21 _ h)
          · rw [if_pos c40] at h
            refine g_iload_n (pc := 75) G dX10_fault_75 0 rfl ?_
            cases h
            exact g_iret (pc := 76) G dX10_fault_76
  exact g_sub [0] rfl (LP22 _ _ h)
theorem c_Mo_fault (l : Launch) (D : va_G) (ca : Nat → ClassId) (b : Nat) {T : Tx} {V : Vx} {this : Nat} {rr : Int32} {Vf : Vx} (k_this : kd T this = 9) (h : Mo_fault T V this = some (rr, Vf)) : MG l yX10_fault cX10_fault 2 (Option.some Jvm.ClassFile.FieldType.int) 4 95 0 0 D ca b [rv b (some this)] T V (some (.int rr)) T Vf :=
  MG.ofWG (L := [(0, rv b (some this))]) (by decide +kernel) rfl (Nat.le_of_ble_eq_true rfl) (fun _ _ _ _ _ _ _ G _ => w_Mo_fault G ⟨Nat.le_refl _, Nat.le_refl _⟩ k_this h)
set_option maxHeartbeats 4000000 in
set_option maxRecDepth 100000 in
theorem w_Mo_lay {p : Program} {l : Launch} {e : Env} {R : Room} {s : State} {m : MethodId} {args : Array Value} {below : List Frame} {meth : Method} {c : Code} {D : va_G} {ca : Nat → ClassId} {b : Nat} {T : Tx} {V : Vx} (G : GX p s m meth c cX10_lay 2 (Option.some Jvm.ClassFile.FieldType.int) RX10 "lay" D ca b) (hR : 5 ≤ R.frames ∧ 116 ≤ R.locals) {this : Nat} {rr : Int32} {Vf : Vx} (k_this : kd T this = 9) (h : Mo_lay T V this = some (rr, Vf)) : WG p l e R s m args below meth c D ca b 2 (QG D ca b (some (.int rr)) T Vf below args s 0 0) 0 0 T V 0 [(0, rv b (some this))] [] := by
  unfold Mo_lay at h
  refine g_aload_n (pc := 0) G dX10_lay_0 0 rfl ?_
  obtain ⟨r3, V2, e1, h⟩ := bd2_e h
  refine g_callV (pc := 1) (As := []) (rest := []) (st2 := [.int r3]) G (c_Mo_fault l D ca b k_this e1) (mb_Mo_fault G.2.2.2.2.1) (q849 G.2.2.2.2.1) (q850 G.2.2.2.2.1) (q886 G.2.2.2.2.1) ci_9 k_this rfl rfl (Nat.le_of_ble_eq_true rfl) ⟨Nat.le_trans (Nat.le_of_ble_eq_true rfl) hR.1, Nat.le_trans (Nat.le_of_ble_eq_true rfl) hR.2⟩ ⟨Nat.zero_le _, Nat.zero_le _⟩ rfl rfl dX10_lay_1 ?_
  refine g_bipush (pc := 4) G (v := (-4)) dX10_lay_4 (by decide) ?_
  refine g_icmp_ne (pc := 6) G 31 dX10_lay_6 (by decide) (fun c4 => ?_) (fun c4 => ?_)
  · rw [if_neg c4] at h
    refine g_bipush (pc := 31) G (v := (-2)) dX10_lay_31 (by decide) ?_
    cases h
    exact g_iret (pc := 33) G dX10_lay_33
  · rw [if_pos c4] at h
    refine g_aload_n (pc := 9) G dX10_lay_9 0 rfl ?_
    obtain ⟨r5, e6, h⟩ := bd_e h
    obtain ⟨f7, k8⟩ := ck_e e6
    refine g_getR (pc := 10) G ci_9 (uw_9 G.2.2.2.2.1) (k := 4) (by decide) rfl rfl k_this (q778 G.2.2.2.2.1) dX10_lay_10 f7 ?_
    refine g_sipush (pc := 13) G (v := 164) dX10_lay_13 (by decide) ?_
    obtain ⟨b9, h⟩ := gd_e h
    refine g_iald (pc := 16) G k8 b9 dX10_lay_16 ?_
    refine g_if_eq (pc := 17) G 31 dX10_lay_17 (by decide) (fun c10 => ?_) (fun c10 => ?_)
    · rw [if_pos c10] at h
      refine g_bipush (pc := 31) G (v := (-2)) dX10_lay_31 (by decide) ?_
      cases h
      exact g_iret (pc := 33) G dX10_lay_33
    · rw [if_neg c10] at h
      refine g_aload_n (pc := 20) G dX10_lay_20 0 rfl ?_
      obtain ⟨r11, e12, h⟩ := bd_e h
      obtain ⟨f13, k14⟩ := ck_e e12
      refine g_getR (pc := 21) G ci_9 (uw_9 G.2.2.2.2.1) (k := 4) (by decide) rfl rfl k_this (q778 G.2.2.2.2.1) dX10_lay_21 f13 ?_
      refine g_sipush (pc := 24) G (v := 165) dX10_lay_24 (by decide) ?_
      obtain ⟨b15, h⟩ := gd_e h
      refine g_iald (pc := 27) G k14 b15 dX10_lay_27 ?_
      refine g_if_ne (pc := 28) G 34 dX10_lay_28 (by decide) (fun c16 => ?_) (fun c16 => ?_)
      · rw [if_neg c16] at h
        refine g_iconst (pc := 34) G (v := 0) dX10_lay_34 (by decide) ?_
        refine g_istore_n (L' := [(1, .int 0), (0, rv b (some this))]) (pc := 35) G dX10_lay_35 (by decide) rfl ?_
        have LP21 : ∀ (n17 : Nat) (V19 : Vx) (v18 : Int32) (V22 : Vx), Mo_lay_L36 T this n17 V19 v18 = some (V22) → WG p l e R s m args below meth c D ca b 2 (QG D ca b (some (.int rr)) T Vf below args s 0 0) 0 0 T V22 61 [(0, rv b (some this))] [] → WG p l e R s m args below meth c D ca b 2 (QG D ca b (some (.int rr)) T Vf below args s 0 0) 0 0 T V19 36 [(0, rv b (some this)), (1, .int v18)] [] := by
          intro n17
          induction n17 with
          | zero =>
            intro V19 v18 V22 h
            cases h
          | succ n17 ih20 =>
            intro V19 v18 V22 h K23
            rw [Mo_lay_L36] at h
            refine g_iload_n (pc := 36) G dX10_lay_36 1 rfl ?_
            refine g_sipush (pc := 37) G (v := 167) dX10_lay_37 (by decide) ?_
            refine g_icmp_ge (pc := 40) G 61 dX10_lay_40 (by decide) (fun c24 => ?_) (fun c24 => ?_)
            · rw [if_pos c24] at h
              cases h
              exact g_sub [0] rfl K23
            · rw [if_neg c24] at h
              refine g_aload_n (pc := 43) G dX10_lay_43 0 rfl ?_
              obtain ⟨r25, e26, h⟩ := bd_e h
              obtain ⟨f27, k28⟩ := ck_e e26
              refine g_getR (pc := 44) G ci_9 (uw_9 G.2.2.2.2.1) (k := 3) (by decide) rfl rfl k_this (q777 G.2.2.2.2.1) dX10_lay_44 f27 ?_
              refine g_iload_n (pc := 47) G dX10_lay_47 1 rfl ?_
              refine g_aload_n (pc := 48) G dX10_lay_48 0 rfl ?_
              obtain ⟨r29, e30, h⟩ := bd_e h
              obtain ⟨f31, k32⟩ := ck_e e30
              refine g_getR (pc := 49) G ci_9 (uw_9 G.2.2.2.2.1) (k := 4) (by decide) rfl rfl k_this (q778 G.2.2.2.2.1) dX10_lay_49 f31 ?_
              refine g_iload_n (pc := 52) G dX10_lay_52 1 rfl ?_
              obtain ⟨b33, h⟩ := gd_e h
              refine g_iald (pc := 53) G k32 b33 dX10_lay_53 ?_
              obtain ⟨b34, h⟩ := gd_e h
              obtain ⟨V35, e36, h⟩ := lt_e h
              refine g_iast (pc := 54) G k28 b34 e36 dX10_lay_54 ?_
              refine g_iinc (v := v18 + 1) (L' := [(1, .int (v18 + 1)), (0, rv b (some this))]) (pc := 55) G dX10_lay_55 1 rfl rfl (by decide) rfl ?_
              refine g_goto (pc := 58) G 36 dX10_lay_58 (by decide) ?_
              exact g_sub [1, 0] rfl (ih20 _ _ _ h K23)
        obtain ⟨V22, e37, h⟩ := bd_e h
        refine g_sub [1, 0] rfl (LP21 _ _ _ _ e37 ?_)
        refine g_aload_n (pc := 61) G dX10_lay_61 0 rfl ?_
        obtain ⟨V39, e38, h⟩ := bd_e h
        refine g_callV (pc := 62) (As := []) (rest := []) (st2 := []) G (c_Mo_anew l D ca b k_this e38) (mb_Mo_anew G.2.2.2.2.1) (q772 G.2.2.2.2.1) (q17 G.2.2.2.2.1) (q770 G.2.2.2.2.1) ci_9 k_this rfl rfl (Nat.le_of_ble_eq_true rfl) ⟨Nat.le_trans (Nat.le_of_ble_eq_true rfl) hR.1, Nat.le_trans (Nat.le_of_ble_eq_true rfl) hR.2⟩ ⟨Nat.zero_le _, Nat.zero_le _⟩ rfl rfl dX10_lay_62 ?_
        refine g_aload_n (pc := 65) G dX10_lay_65 0 rfl ?_
        obtain ⟨r40, e41, h⟩ := bd_e h
        obtain ⟨f42, k43⟩ := ck_e e41
        refine g_getR (pc := 66) G ci_9 (uw_9 G.2.2.2.2.1) (k := 3) (by decide) rfl rfl k_this (q777 G.2.2.2.2.1) dX10_lay_66 f42 ?_
        refine g_sipush (pc := 69) G (v := 164) dX10_lay_69 (by decide) ?_
        obtain ⟨b44, h⟩ := gd_e h
        refine g_iald (pc := 72) G k43 b44 dX10_lay_72 ?_
        cases h
        exact g_iret (pc := 73) G dX10_lay_73
      · rw [if_pos c16] at h
        refine g_bipush (pc := 31) G (v := (-2)) dX10_lay_31 (by decide) ?_
        cases h
        exact g_iret (pc := 33) G dX10_lay_33
theorem c_Mo_lay (l : Launch) (D : va_G) (ca : Nat → ClassId) (b : Nat) {T : Tx} {V : Vx} {this : Nat} {rr : Int32} {Vf : Vx} (k_this : kd T this = 9) (h : Mo_lay T V this = some (rr, Vf)) : MG l yX10_lay cX10_lay 2 (Option.some Jvm.ClassFile.FieldType.int) 5 116 0 0 D ca b [rv b (some this)] T V (some (.int rr)) T Vf :=
  MG.ofWG (L := [(0, rv b (some this))]) (by decide +kernel) rfl (Nat.le_of_ble_eq_true rfl) (fun _ _ _ _ _ _ _ G _ => w_Mo_lay G ⟨Nat.le_refl _, Nat.le_refl _⟩ k_this h)
set_option maxHeartbeats 4000000 in
set_option maxRecDepth 100000 in
theorem w_Mo_note {p : Program} {l : Launch} {e : Env} {R : Room} {s : State} {m : MethodId} {args : Array Value} {below : List Frame} {meth : Method} {c : Code} {D : va_G} {ca : Nat → ClassId} {b : Nat} {T : Tx} {V : Vx} (G : GX p s m meth c cX10_note 2 (Option.none : Option Jvm.ClassFile.FieldType) RX10 "note" D ca b) (hR : 0 ≤ R.frames ∧ 0 ≤ R.locals) {this : Nat}  {Vf : Vx} (k_this : kd T this = 9) (h : Mo_note T V this = some Vf) : WG p l e R s m args below meth c D ca b 2 (QG D ca b none T Vf below args s 0 0) 0 0 T V 0 [(0, rv b (some this))] [] := by
  unfold Mo_note at h
  refine g_aload_n (pc := 0) G dX10_note_0 0 rfl ?_
  refine g_getI (pc := 1) G ci_9 (uw_9 G.2.2.2.2.1) (k := 7) (by decide) rfl rfl k_this (q781 G.2.2.2.2.1) dX10_note_1 ?_
  refine g_bipush (pc := 4) G (v := 6) dX10_note_4 (by decide) ?_
  obtain ⟨V1, hx3, h⟩ := bd_e h
  have K2 : WG p l e R s m args below meth c D ca b 2 (QG D ca b none T Vf below args s 0 0) 0 0 T V1 48 [(0, rv b (some this))] [] := by
    refine g_iconst (pc := 48) G (v := 0) dX10_note_48 (by decide) ?_
    refine g_istore_n (L' := [(1, .int 0), (0, rv b (some this))]) (pc := 49) G dX10_note_49 (by decide) rfl ?_
    have LP33 : ∀ (n29 : Nat) (V31 : Vx) (v30 : Int32) (V34 : Vx), Mo_note_L50 T this n29 V31 v30 = some (V34) → WG p l e R s m args below meth c D ca b 2 (QG D ca b none T Vf below args s 0 0) 0 0 T V34 82 [(0, rv b (some this))] [] → WG p l e R s m args below meth c D ca b 2 (QG D ca b none T Vf below args s 0 0) 0 0 T V31 50 [(0, rv b (some this)), (1, .int v30)] [] := by
      intro n29
      induction n29 with
      | zero =>
        intro V31 v30 V34 h
        cases h
      | succ n29 ih32 =>
        intro V31 v30 V34 h K35
        rw [Mo_note_L50] at h
        refine g_iload_n (pc := 50) G dX10_note_50 1 rfl ?_
        refine g_bipush (pc := 51) G (v := 19) dX10_note_51 (by decide) ?_
        refine g_icmp_ge (pc := 53) G 82 dX10_note_53 (by decide) (fun c36 => ?_) (fun c36 => ?_)
        · rw [if_pos c36] at h
          cases h
          exact g_sub [0] rfl K35
        · rw [if_neg c36] at h
          refine g_aload_n (pc := 56) G dX10_note_56 0 rfl ?_
          obtain ⟨r37, e38, h⟩ := bd_e h
          obtain ⟨f39, k40⟩ := ck_e e38
          refine g_getR (pc := 57) G ci_9 (uw_9 G.2.2.2.2.1) (k := 6) (by decide) rfl rfl k_this (q780 G.2.2.2.2.1) dX10_note_57 f39 ?_
          refine g_bipush (pc := 60) G (v := 19) dX10_note_60 (by decide) ?_
          refine g_aload_n (pc := 62) G dX10_note_62 0 rfl ?_
          refine g_getI (pc := 63) G ci_9 (uw_9 G.2.2.2.2.1) (k := 7) (by decide) rfl rfl k_this (q781 G.2.2.2.2.1) dX10_note_63 ?_
          refine g_imul (pc := 66) G dX10_note_66 ?_
          refine g_iload_n (pc := 67) G dX10_note_67 1 rfl ?_
          refine g_iadd (pc := 68) G dX10_note_68 ?_
          refine g_aload_n (pc := 69) G dX10_note_69 0 rfl ?_
          obtain ⟨r41, e42, h⟩ := bd_e h
          obtain ⟨f43, k44⟩ := ck_e e42
          refine g_getR (pc := 70) G ci_9 (uw_9 G.2.2.2.2.1) (k := 5) (by decide) rfl rfl k_this (q779 G.2.2.2.2.1) dX10_note_70 f43 ?_
          refine g_iload_n (pc := 73) G dX10_note_73 1 rfl ?_
          obtain ⟨b45, h⟩ := gd_e h
          refine g_iald (pc := 74) G k44 b45 dX10_note_74 ?_
          obtain ⟨b46, h⟩ := gd_e h
          obtain ⟨V47, e48, h⟩ := lt_e h
          refine g_iast (pc := 75) G k40 b46 e48 dX10_note_75 ?_
          refine g_iinc (v := v30 + 1) (L' := [(1, .int (v30 + 1)), (0, rv b (some this))]) (pc := 76) G dX10_note_76 1 rfl rfl (by decide) rfl ?_
          refine g_goto (pc := 79) G 50 dX10_note_79 (by decide) ?_
          exact g_sub [1, 0] rfl (ih32 _ _ _ h K35)
    obtain ⟨V34, e49, h⟩ := bd_e h
    refine g_sub [1, 0] rfl (LP33 _ _ _ _ e49 ?_)
    refine g_aload_n (pc := 82) G dX10_note_82 0 rfl ?_
    refine g_dup (pc := 83) G dX10_note_83 rfl ?_
    refine g_getI (pc := 84) G ci_9 (uw_9 G.2.2.2.2.1) (k := 7) (by decide) rfl rfl k_this (q781 G.2.2.2.2.1) dX10_note_84 ?_
    refine g_iconst (pc := 87) G (v := 1) dX10_note_87 (by decide) ?_
    refine g_iadd (pc := 88) G dX10_note_88 ?_
    obtain ⟨V50, e51, h⟩ := lt_e h
    refine g_putI (pc := 89) G ci_9 (uw_9 G.2.2.2.2.1) (k := 7) (by decide) rfl rfl k_this rfl ⟨rfl, rfl⟩ (q781 G.2.2.2.2.1) e51 dX10_note_89 ?_
    cases h
    exact g_vret (pc := 92) G dX10_note_92
  refine g_icmp_ne (pc := 6) G 48 dX10_note_6 (by decide) (fun c5 => ?_) (fun c5 => ?_)
  · rw [if_neg c5] at hx3
    cases hx3
    exact g_sub [0] rfl K2
  · rw [if_pos c5] at hx3
    refine g_iconst (pc := 9) G (v := 0) dX10_note_9 (by decide) ?_
    refine g_istore_n (L' := [(1, .int 0), (0, rv b (some this))]) (pc := 10) G dX10_note_10 (by decide) rfl ?_
    have LP10 : ∀ (n6 : Nat) (V8 : Vx) (v7 : Int32) (V11 : Vx), Mo_note_L11 T this n6 V8 v7 = some (V11) → WG p l e R s m args below meth c D ca b 2 (QG D ca b none T Vf below args s 0 0) 0 0 T V11 38 [(0, rv b (some this))] [] → WG p l e R s m args below meth c D ca b 2 (QG D ca b none T Vf below args s 0 0) 0 0 T V8 11 [(0, rv b (some this)), (1, .int v7)] [] := by
      intro n6
      induction n6 with
      | zero =>
        intro V8 v7 V11 h
        cases h
      | succ n6 ih9 =>
        intro V8 v7 V11 h K12
        rw [Mo_note_L11] at h
        refine g_iload_n (pc := 11) G dX10_note_11 1 rfl ?_
        refine g_bipush (pc := 12) G (v := 95) dX10_note_12 (by decide) ?_
        refine g_icmp_ge (pc := 14) G 38 dX10_note_14 (by decide) (fun c13 => ?_) (fun c13 => ?_)
        · rw [if_pos c13] at h
          cases h
          exact g_sub [0] rfl K12
        · rw [if_neg c13] at h
          refine g_aload_n (pc := 17) G dX10_note_17 0 rfl ?_
          obtain ⟨r14, e15, h⟩ := bd_e h
          obtain ⟨f16, k17⟩ := ck_e e15
          refine g_getR (pc := 18) G ci_9 (uw_9 G.2.2.2.2.1) (k := 6) (by decide) rfl rfl k_this (q780 G.2.2.2.2.1) dX10_note_18 f16 ?_
          refine g_iload_n (pc := 21) G dX10_note_21 1 rfl ?_
          refine g_aload_n (pc := 22) G dX10_note_22 0 rfl ?_
          obtain ⟨r18, e19, h⟩ := bd_e h
          obtain ⟨f20, k21⟩ := ck_e e19
          refine g_getR (pc := 23) G ci_9 (uw_9 G.2.2.2.2.1) (k := 6) (by decide) rfl rfl k_this (q780 G.2.2.2.2.1) dX10_note_23 f20 ?_
          refine g_bipush (pc := 26) G (v := 19) dX10_note_26 (by decide) ?_
          refine g_iload_n (pc := 28) G dX10_note_28 1 rfl ?_
          refine g_iadd (pc := 29) G dX10_note_29 ?_
          obtain ⟨b22, h⟩ := gd_e h
          refine g_iald (pc := 30) G k21 b22 dX10_note_30 ?_
          obtain ⟨b23, h⟩ := gd_e h
          obtain ⟨V24, e25, h⟩ := lt_e h
          refine g_iast (pc := 31) G k17 b23 e25 dX10_note_31 ?_
          refine g_iinc (v := v7 + 1) (L' := [(1, .int (v7 + 1)), (0, rv b (some this))]) (pc := 32) G dX10_note_32 1 rfl rfl (by decide) rfl ?_
          refine g_goto (pc := 35) G 11 dX10_note_35 (by decide) ?_
          exact g_sub [1, 0] rfl (ih9 _ _ _ h K12)
    obtain ⟨V11, e26, hx3⟩ := bd_e hx3
    refine g_sub [1, 0] rfl (LP10 _ _ _ _ e26 ?_)
    refine g_aload_n (pc := 38) G dX10_note_38 0 rfl ?_
    refine g_dup (pc := 39) G dX10_note_39 rfl ?_
    refine g_getI (pc := 40) G ci_9 (uw_9 G.2.2.2.2.1) (k := 7) (by decide) rfl rfl k_this (q781 G.2.2.2.2.1) dX10_note_40 ?_
    refine g_iconst (pc := 43) G (v := 1) dX10_note_43 (by decide) ?_
    refine g_isub (pc := 44) G dX10_note_44 ?_
    obtain ⟨V27, e28, hx3⟩ := lt_e hx3
    refine g_putI (pc := 45) G ci_9 (uw_9 G.2.2.2.2.1) (k := 7) (by decide) rfl rfl k_this rfl ⟨rfl, rfl⟩ (q781 G.2.2.2.2.1) e28 dX10_note_45 ?_
    cases hx3
    exact g_sub [0] rfl K2
theorem c_Mo_note (l : Launch) (D : va_G) (ca : Nat → ClassId) (b : Nat) {T : Tx} {V : Vx} {this : Nat}  {Vf : Vx} (k_this : kd T this = 9) (h : Mo_note T V this = some Vf) : MG l yX10_note cX10_note 2 (Option.none : Option Jvm.ClassFile.FieldType) 0 0 0 0 D ca b [rv b (some this)] T V none T Vf :=
  MG.ofWG (L := [(0, rv b (some this))]) (by decide +kernel) rfl (Nat.le_of_ble_eq_true rfl) (fun _ _ _ _ _ _ _ G _ => w_Mo_note G ⟨Nat.le_refl _, Nat.le_refl _⟩ k_this h)
