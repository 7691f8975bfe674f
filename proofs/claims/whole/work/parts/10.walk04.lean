set_option maxHeartbeats 4000000 in
set_option maxRecDepth 100000 in
theorem w_RS_clearness {p : Program} {l : Launch} {e : Env} {R : Room} {s : State} {m : MethodId} {args : Array Value} {below : List Frame} {meth : Method} {c : Code} {D : va_G} {ca : Nat → ClassId} {b : Nat} {T : Tx} {V : Vx} (G : GX p s m meth c cX9_clearness 6 (Option.some Jvm.ClassFile.FieldType.int) RX9 "clearness" D ca b) (hR : 4 ≤ R.frames ∧ 101 ≤ R.locals) {this : Nat} {p1 : Int32} {rr : Int32} {Vf : Vx} (k_this : kd T this = 8) (h : RS_clearness T V this p1 = some (rr, Vf)) : WG p l e R s m args below meth c D ca b 6 (QG D ca b (some (.int rr)) T Vf below args s 0 0) 0 0 T V 0 [(0, rv b (some this)), (1, .int p1)] [] := by
  unfold RS_clearness at h
  refine g_aload_n (pc := 0) G dX9_clearness_0 0 rfl ?_
  obtain ⟨r1, e2, h⟩ := bd_e h
  obtain ⟨f3, k4⟩ := ck_e e2
  refine g_getR (pc := 1) G ci_8 (uw_8 G.2.2.2.2.1) (k := 4) (by decide) rfl rfl k_this (q403 G.2.2.2.2.1) dX9_clearness_1 f3 ?_
  refine g_iload_n (pc := 4) G dX9_clearness_4 1 rfl ?_
  obtain ⟨r6, e5, h⟩ := bd_e h
  refine g_callV (pc := 5) (As := [.int p1]) (rest := []) (st2 := [rv b r6]) G (c_Sc_rowOf l D ca b k4 e5) (mb_Sc_rowOf G.2.2.2.2.1) (q581 G.2.2.2.2.1) (q582 G.2.2.2.2.1) (q580 G.2.2.2.2.1) ci_5 k4 rfl rfl (Nat.le_of_ble_eq_true rfl) ⟨Nat.le_trans (Nat.le_of_ble_eq_true rfl) hR.1, Nat.le_trans (Nat.le_of_ble_eq_true rfl) hR.2⟩ ⟨Nat.zero_le _, Nat.zero_le _⟩ rfl rfl dX9_clearness_5 ?_
  refine g_astore_n (L' := [(2, rv b r6), (0, rv b (some this)), (1, .int p1)]) (pc := 8) G dX9_clearness_8 (by decide) rfl ?_
  refine g_aload_n (pc := 9) G dX9_clearness_9 1 rfl ?_
  obtain ⟨r7, e8, h⟩ := bd_e h
  obtain ⟨f9, k10⟩ := ck_e e8
  refine g_getR (pc := 10) G ci_8 (uw_8 G.2.2.2.2.1) (k := 6) (by decide) rfl rfl k_this (q405 G.2.2.2.2.1) dX9_clearness_10 f9 ?_
  refine g_iload_n (pc := 13) G dX9_clearness_13 2 rfl ?_
  obtain ⟨r12, e11, h⟩ := bd_e h
  refine g_callV (pc := 14) (As := [.int p1]) (rest := []) (st2 := [rv b r12]) G (c_Lx_wordAt l D ca b k10 e11) (mb_Lx_wordAt G.2.2.2.2.1) (q388 G.2.2.2.2.1) (q389 G.2.2.2.2.1) (q592 G.2.2.2.2.1) ci_2 k10 rfl rfl (Nat.le_of_ble_eq_true rfl) ⟨Nat.le_trans (Nat.le_of_ble_eq_true rfl) hR.1, Nat.le_trans (Nat.le_of_ble_eq_true rfl) hR.2⟩ ⟨Nat.zero_le _, Nat.zero_le _⟩ rfl rfl dX9_clearness_14 ?_
  refine g_astore_n (L' := [(3, rv b r12), (2, rv b r6), (0, rv b (some this)), (1, .int p1)]) (pc := 17) G dX9_clearness_17 (by decide) (by cases r6 <;> rfl) ?_
  refine g_aload_n (pc := 18) G dX9_clearness_18 1 rfl ?_
  cases r6 with
  | none =>
    dsimp only at h
    refine g_ifnullN (pc := 19) G 33 dX9_clearness_19 (by decide) ?_
    refine g_iconst (pc := 33) G (v := 0) dX9_clearness_33 (by decide) ?_
    cases h
    exact g_iret (pc := 34) G dX9_clearness_34
  | some r13 =>
    dsimp only at h
    refine g_ifnullS (pc := 19) G dX9_clearness_19 ?_
    refine g_aload_n (pc := 22) G dX9_clearness_22 0 rfl ?_
    cases r12 with
    | none =>
      dsimp only at h
      refine g_ifnullN (pc := 23) G 33 dX9_clearness_23 (by decide) ?_
      refine g_iconst (pc := 33) G (v := 0) dX9_clearness_33 (by decide) ?_
      cases h
      exact g_iret (pc := 34) G dX9_clearness_34
    | some r14 =>
      dsimp only at h
      refine g_ifnullS (pc := 23) G dX9_clearness_23 ?_
      refine g_aload_n (pc := 26) G dX9_clearness_26 1 rfl ?_
      obtain ⟨r17, e16, h⟩ := bd_e h
      have k15 : kd T r13 = 4 := by
        obtain ⟨ee, k0⟩ := ck_e e16
        cases ee
        exact k0
      obtain ⟨r19, e18, h⟩ := bd_e h
      refine g_callV (pc := 27) (As := []) (rest := []) (st2 := [.int r19]) G (c_Ro_size l D ca b k15 e18) (mb_Ro_size G.2.2.2.2.1) (q508 G.2.2.2.2.1) (q509 G.2.2.2.2.1) (q507 G.2.2.2.2.1) ci_4 k15 rfl rfl (Nat.le_of_ble_eq_true rfl) ⟨Nat.le_trans (Nat.le_of_ble_eq_true rfl) hR.1, Nat.le_trans (Nat.le_of_ble_eq_true rfl) hR.2⟩ ⟨Nat.zero_le _, Nat.zero_le _⟩ rfl rfl dX9_clearness_27 ?_
      refine g_if_ne (pc := 30) G 35 dX9_clearness_30 (by decide) (fun c20 => ?_) (fun c20 => ?_)
      · rw [if_neg c20] at h
        refine g_iconst (pc := 35) G (v := 1) dX9_clearness_35 (by decide) ?_
        refine g_iload_n (pc := 36) G dX9_clearness_36 3 rfl ?_
        refine g_ishl (pc := 37) G dX9_clearness_37 ?_
        obtain ⟨x21, e22, h⟩ := lt_e h
        rw [e22]
        refine g_istore (L' := [(4, .int x21), (3, rv b (some r14)), (2, rv b (some r13)), (0, rv b (some this)), (1, .int p1)]) (pc := 38) G dX9_clearness_38 (by decide) rfl ?_
        refine g_aload_n (pc := 40) G dX9_clearness_40 3 rfl ?_
        obtain ⟨r23, e24, h⟩ := bd_e h
        obtain ⟨f25, k26⟩ := ck_e e24
        refine g_getR (pc := 41) G ci_8 (uw_8 G.2.2.2.2.1) (k := 5) (by decide) rfl rfl k_this (q404 G.2.2.2.2.1) dX9_clearness_41 f25 ?_
        refine g_aload_n (pc := 44) G dX9_clearness_44 3 rfl ?_
        obtain ⟨r27, e28, h⟩ := bd_e h
        obtain ⟨f29, k30⟩ := ck_e e28
        refine g_getR (pc := 45) G ci_8 (uw_8 G.2.2.2.2.1) (k := 6) (by decide) rfl rfl k_this (q405 G.2.2.2.2.1) dX9_clearness_45 f29 ?_
        refine g_aload_n (pc := 48) G dX9_clearness_48 2 rfl ?_
        refine g_iconst (pc := 49) G (v := 0) dX9_clearness_49 (by decide) ?_
        obtain ⟨V32, e31, h⟩ := bd_e h
        refine g_callV (pc := 50) (As := [rv b (some r27), rv b (some r13), .int 0]) (rest := []) (st2 := []) G (c_Re_look l D ca b k26 k30 k15 e31) (mb_Re_look G.2.2.2.2.1) (q603 G.2.2.2.2.1) (q604 G.2.2.2.2.1) (q602 G.2.2.2.2.1) ci_3 k26 rfl rfl (Nat.le_of_ble_eq_true rfl) ⟨Nat.le_trans (Nat.le_of_ble_eq_true rfl) hR.1, Nat.le_trans (Nat.le_of_ble_eq_true rfl) hR.2⟩ ⟨Nat.zero_le _, Nat.zero_le _⟩ rfl rfl dX9_clearness_50 ?_
        refine g_aload_n (pc := 53) G dX9_clearness_53 3 rfl ?_
        obtain ⟨r33, e34, h⟩ := bd_e h
        obtain ⟨f35, k36⟩ := ck_e e34
        refine g_getR (pc := 54) G ci_8 (uw_8 G.2.2.2.2.1) (k := 5) (by decide) rfl rfl k_this (q404 G.2.2.2.2.1) dX9_clearness_54 f35 ?_
        refine g_aload_n (pc := 57) G dX9_clearness_57 2 rfl ?_
        obtain ⟨r38, e37, h⟩ := bd_e h
        refine g_callV (pc := 58) (As := []) (rest := [rv b (some r33)]) (st2 := [.int r38, rv b (some r33)]) G (c_Ro_size l D ca b k15 e37) (mb_Ro_size G.2.2.2.2.1) (q508 G.2.2.2.2.1) (q509 G.2.2.2.2.1) (q507 G.2.2.2.2.1) ci_4 k15 rfl rfl (Nat.le_of_ble_eq_true rfl) ⟨Nat.le_trans (Nat.le_of_ble_eq_true rfl) hR.1, Nat.le_trans (Nat.le_of_ble_eq_true rfl) hR.2⟩ ⟨Nat.zero_le _, Nat.zero_le _⟩ rfl rfl dX9_clearness_58 ?_
        obtain ⟨r40, e39, h⟩ := bd_e h
        refine g_callV (pc := 61) (As := [.int r38]) (rest := []) (st2 := [.int r40]) G (c_Re_wordsBy l D ca b k36 e39) (mb_Re_wordsBy G.2.2.2.2.1) (q624 G.2.2.2.2.1) (q625 G.2.2.2.2.1) (q623 G.2.2.2.2.1) ci_3 k36 rfl rfl (Nat.le_of_ble_eq_true rfl) ⟨Nat.le_trans (Nat.le_of_ble_eq_true rfl) hR.1, Nat.le_trans (Nat.le_of_ble_eq_true rfl) hR.2⟩ ⟨Nat.zero_le _, Nat.zero_le _⟩ rfl rfl dX9_clearness_61 ?_
        refine g_iload (pc := 64) G dX9_clearness_64 0 rfl ?_
        refine g_icmp_ne (pc := 66) G 71 dX9_clearness_66 (by decide) (fun c41 => ?_) (fun c41 => ?_)
        · rw [if_neg c41] at h
          refine g_aload_n (pc := 71) G dX9_clearness_71 3 rfl ?_
          obtain ⟨r42, e43, h⟩ := bd_e h
          obtain ⟨f44, k45⟩ := ck_e e43
          refine g_getR (pc := 72) G ci_8 (uw_8 G.2.2.2.2.1) (k := 6) (by decide) rfl rfl k_this (q405 G.2.2.2.2.1) dX9_clearness_72 f44 ?_
          refine g_aload_n (pc := 75) G dX9_clearness_75 1 rfl ?_
          obtain ⟨r48, e47, h⟩ := bd_e h
          have k46 : kd T r14 = 7 := by
            obtain ⟨ee, k0⟩ := ck_e e47
            cases ee
            exact k0
          refine g_getIN (pc := 76) G ci_7 (uw_7 G.2.2.2.2.1) (k := 1) (by decide) rfl rfl k46 (q294 G.2.2.2.2.1) dX9_clearness_76 ?_
          obtain ⟨r50, e49, h⟩ := bd_e h
          refine g_callV (pc := 79) (As := [.int (fI V32 701 r14)]) (rest := []) (st2 := [.int r50]) G (c_Lx_lowestMark l D ca b k45 e49) (mb_Lx_lowestMark G.2.2.2.2.1) (q628 G.2.2.2.2.1) (q629 G.2.2.2.2.1) (q627 G.2.2.2.2.1) ci_2 k45 rfl rfl (Nat.le_of_ble_eq_true rfl) ⟨Nat.le_trans (Nat.le_of_ble_eq_true rfl) hR.1, Nat.le_trans (Nat.le_of_ble_eq_true rfl) hR.2⟩ ⟨Nat.zero_le _, Nat.zero_le _⟩ rfl rfl dX9_clearness_79 ?_
          refine g_istore (L' := [(5, .int r50), (4, .int x21), (3, rv b (some r14)), (2, rv b (some r13)), (0, rv b (some this)), (1, .int p1)]) (pc := 82) G dX9_clearness_82 (by decide) rfl ?_
          refine g_iload (pc := 84) G dX9_clearness_84 0 rfl ?_
          refine g_bipush (pc := 86) G (v := (-4)) dX9_clearness_86 (by decide) ?_
          refine g_icmp_ne (pc := 88) G 93 dX9_clearness_88 (by decide) (fun c51 => ?_) (fun c51 => ?_)
          · rw [if_neg c51] at h
            refine g_aload_n (pc := 93) G dX9_clearness_93 4 rfl ?_
            obtain ⟨r52, e53, h⟩ := bd_e h
            obtain ⟨f54, k55⟩ := ck_e e53
            refine g_getR (pc := 94) G ci_8 (uw_8 G.2.2.2.2.1) (k := 2) (by decide) rfl rfl k_this (q401 G.2.2.2.2.1) dX9_clearness_94 f54 ?_
            refine g_aload_n (pc := 97) G dX9_clearness_97 3 rfl ?_
            obtain ⟨V57, e56, h⟩ := bd_e h
            refine g_callV (pc := 98) (As := [rv b (some r13)]) (rest := []) (st2 := []) G (c_Ro_copy l D ca b k55 k15 e56) (mb_Ro_copy G.2.2.2.2.1) (q633 G.2.2.2.2.1) (q634 G.2.2.2.2.1) (q632 G.2.2.2.2.1) ci_4 k55 rfl rfl (Nat.le_of_ble_eq_true rfl) ⟨Nat.le_trans (Nat.le_of_ble_eq_true rfl) hR.1, Nat.le_trans (Nat.le_of_ble_eq_true rfl) hR.2⟩ ⟨Nat.zero_le _, Nat.zero_le _⟩ rfl rfl dX9_clearness_98 ?_
            refine g_aload_n (pc := 101) G dX9_clearness_101 4 rfl ?_
            obtain ⟨r58, e59, h⟩ := bd_e h
            obtain ⟨f60, k61⟩ := ck_e e59
            refine g_getR (pc := 102) G ci_8 (uw_8 G.2.2.2.2.1) (k := 2) (by decide) rfl rfl k_this (q401 G.2.2.2.2.1) dX9_clearness_102 f60 ?_
            refine g_iload (pc := 105) G dX9_clearness_105 0 rfl ?_
            obtain ⟨V63, e62, h⟩ := bd_e h
            refine g_callV (pc := 107) (As := [.int r50]) (rest := []) (st2 := []) G (c_Ro_put l D ca b k61 e62) (mb_Ro_put G.2.2.2.2.1) (q504 G.2.2.2.2.1) (q505 G.2.2.2.2.1) (q503 G.2.2.2.2.1) ci_4 k61 rfl rfl (Nat.le_of_ble_eq_true rfl) ⟨Nat.le_trans (Nat.le_of_ble_eq_true rfl) hR.1, Nat.le_trans (Nat.le_of_ble_eq_true rfl) hR.2⟩ ⟨Nat.zero_le _, Nat.zero_le _⟩ rfl rfl dX9_clearness_107 ?_
            refine g_aload_n (pc := 110) G dX9_clearness_110 4 rfl ?_
            obtain ⟨r64, e65, h⟩ := bd_e h
            obtain ⟨f66, k67⟩ := ck_e e65
            refine g_getR (pc := 111) G ci_8 (uw_8 G.2.2.2.2.1) (k := 5) (by decide) rfl rfl k_this (q404 G.2.2.2.2.1) dX9_clearness_111 f66 ?_
            refine g_aload_n (pc := 114) G dX9_clearness_114 4 rfl ?_
            obtain ⟨r68, e69, h⟩ := bd_e h
            obtain ⟨f70, k71⟩ := ck_e e69
            refine g_getR (pc := 115) G ci_8 (uw_8 G.2.2.2.2.1) (k := 6) (by decide) rfl rfl k_this (q405 G.2.2.2.2.1) dX9_clearness_115 f70 ?_
            refine g_aload_n (pc := 118) G dX9_clearness_118 4 rfl ?_
            obtain ⟨r72, e73, h⟩ := bd_e h
            obtain ⟨f74, k75⟩ := ck_e e73
            refine g_getR (pc := 119) G ci_8 (uw_8 G.2.2.2.2.1) (k := 2) (by decide) rfl rfl k_this (q401 G.2.2.2.2.1) dX9_clearness_119 f74 ?_
            refine g_iconst (pc := 122) G (v := 0) dX9_clearness_122 (by decide) ?_
            obtain ⟨V77, e76, h⟩ := bd_e h
            refine g_callV (pc := 123) (As := [rv b (some r68), rv b (some r72), .int 0]) (rest := []) (st2 := []) G (c_Re_look l D ca b k67 k71 k75 e76) (mb_Re_look G.2.2.2.2.1) (q603 G.2.2.2.2.1) (q604 G.2.2.2.2.1) (q602 G.2.2.2.2.1) ci_3 k67 rfl rfl (Nat.le_of_ble_eq_true rfl) ⟨Nat.le_trans (Nat.le_of_ble_eq_true rfl) hR.1, Nat.le_trans (Nat.le_of_ble_eq_true rfl) hR.2⟩ ⟨Nat.zero_le _, Nat.zero_le _⟩ rfl rfl dX9_clearness_123 ?_
            refine g_aload_n (pc := 126) G dX9_clearness_126 4 rfl ?_
            obtain ⟨r78, e79, h⟩ := bd_e h
            obtain ⟨f80, k81⟩ := ck_e e79
            refine g_getR (pc := 127) G ci_8 (uw_8 G.2.2.2.2.1) (k := 5) (by decide) rfl rfl k_this (q404 G.2.2.2.2.1) dX9_clearness_127 f80 ?_
            refine g_aload_n (pc := 130) G dX9_clearness_130 4 rfl ?_
            obtain ⟨r82, e83, h⟩ := bd_e h
            obtain ⟨f84, k85⟩ := ck_e e83
            refine g_getR (pc := 131) G ci_8 (uw_8 G.2.2.2.2.1) (k := 2) (by decide) rfl rfl k_this (q401 G.2.2.2.2.1) dX9_clearness_131 f84 ?_
            obtain ⟨r87, e86, h⟩ := bd_e h
            refine g_callV (pc := 134) (As := []) (rest := [rv b (some r78)]) (st2 := [.int r87, rv b (some r78)]) G (c_Ro_size l D ca b k85 e86) (mb_Ro_size G.2.2.2.2.1) (q508 G.2.2.2.2.1) (q509 G.2.2.2.2.1) (q507 G.2.2.2.2.1) ci_4 k85 rfl rfl (Nat.le_of_ble_eq_true rfl) ⟨Nat.le_trans (Nat.le_of_ble_eq_true rfl) hR.1, Nat.le_trans (Nat.le_of_ble_eq_true rfl) hR.2⟩ ⟨Nat.zero_le _, Nat.zero_le _⟩ rfl rfl dX9_clearness_134 ?_
            obtain ⟨r89, e88, h⟩ := bd_e h
            refine g_callV (pc := 137) (As := [.int r87]) (rest := []) (st2 := [.int r89]) G (c_Re_wordsBy l D ca b k81 e88) (mb_Re_wordsBy G.2.2.2.2.1) (q624 G.2.2.2.2.1) (q625 G.2.2.2.2.1) (q623 G.2.2.2.2.1) ci_3 k81 rfl rfl (Nat.le_of_ble_eq_true rfl) ⟨Nat.le_trans (Nat.le_of_ble_eq_true rfl) hR.1, Nat.le_trans (Nat.le_of_ble_eq_true rfl) hR.2⟩ ⟨Nat.zero_le _, Nat.zero_le _⟩ rfl rfl dX9_clearness_137 ?_
            refine g_iload (pc := 140) G dX9_clearness_140 1 rfl ?_
            refine g_icmp_ne (pc := 142) G 149 dX9_clearness_142 (by decide) (fun c90 => ?_) (fun c90 => ?_)
            · rw [if_neg c90] at h
              refine g_iconst (pc := 149) G (v := 0) dX9_clearness_149 (by decide) ?_
              cases h
              exact g_iret (pc := 150) G dX9_clearness_150
            · rw [if_pos c90] at h
              refine g_iconst (pc := 145) G (v := 2) dX9_clearness_145 (by decide) ?_
              refine g_goto (pc := 146) G 150 dX9_clearness_146 (by decide) ?_
              cases h
              exact g_iret (pc := 150) G dX9_clearness_150
          · rw [if_pos c51] at h
            refine g_iconst (pc := 91) G (v := 0) dX9_clearness_91 (by decide) ?_
            cases h
            exact g_iret (pc := 92) G dX9_clearness_92
        · rw [if_pos c41] at h
          refine g_iconst (pc := 69) G (v := 1) dX9_clearness_69 (by decide) ?_
          cases h
          exact g_iret (pc := 70) G dX9_clearness_70
      · rw [if_pos c20] at h
        refine g_iconst (pc := 33) G (v := 0) dX9_clearness_33 (by decide) ?_
        cases h
        exact g_iret (pc := 34) G dX9_clearness_34
theorem c_RS_clearness (l : Launch) (D : va_G) (ca : Nat → ClassId) (b : Nat) {T : Tx} {V : Vx} {this : Nat} {p1 : Int32} {rr : Int32} {Vf : Vx} (k_this : kd T this = 8) (h : RS_clearness T V this p1 = some (rr, Vf)) : MG l yX9_clearness cX9_clearness 6 (Option.some Jvm.ClassFile.FieldType.int) 4 101 0 0 D ca b [rv b (some this), .int p1] T V (some (.int rr)) T Vf :=
  MG.ofWG (L := [(0, rv b (some this)), (1, .int p1)]) (by decide +kernel) rfl (Nat.le_of_ble_eq_true rfl) (fun _ _ _ _ _ _ _ G _ => w_RS_clearness G ⟨Nat.le_refl _, Nat.le_refl _⟩ k_this h)
set_option maxHeartbeats 4000000 in
set_option maxRecDepth 100000 in
theorem w_RS_mixedWith {p : Program} {l : Launch} {e : Env} {R : Room} {s : State} {m : MethodId} {args : Array Value} {below : List Frame} {meth : Method} {c : Code} {D : va_G} {ca : Nat → ClassId} {b : Nat} {T : Tx} {V : Vx} (G : GX p s m meth c cX9_mixedWith 7 (Option.some Jvm.ClassFile.FieldType.int) RX9 "mixedWith" D ca b) (hR : 2 ≤ R.frames ∧ 43 ≤ R.locals) {this : Nat} {p1 : Int32} {p2 : Int32} {rr : Int32}  (k_this : kd T this = 8) (h : RS_mixedWith T V this p1 p2 = some rr) : WG p l e R s m args below meth c D ca b 7 (QG D ca b (some (.int rr)) T V below args s 0 0) 0 0 T V 0 [(0, rv b (some this)), (1, .int p1), (2, .int p2)] [] := by
  unfold RS_mixedWith at h
  refine g_aload_n (pc := 0) G dX9_mixedWith_0 0 rfl ?_
  obtain ⟨r1, e2, h⟩ := bd_e h
  obtain ⟨f3, k4⟩ := ck_e e2
  refine g_getR (pc := 1) G ci_8 (uw_8 G.2.2.2.2.1) (k := 4) (by decide) rfl rfl k_this (q403 G.2.2.2.2.1) dX9_mixedWith_1 f3 ?_
  refine g_iload_n (pc := 4) G dX9_mixedWith_4 1 rfl ?_
  obtain ⟨r6, e5, h⟩ := bd_e h
  refine g_callV (pc := 5) (As := [.int p1]) (rest := []) (st2 := [rv b r6]) G (c_Sc_rowOf l D ca b k4 e5) (mb_Sc_rowOf G.2.2.2.2.1) (q581 G.2.2.2.2.1) (q582 G.2.2.2.2.1) (q580 G.2.2.2.2.1) ci_5 k4 rfl rfl (Nat.le_of_ble_eq_true rfl) ⟨Nat.le_trans (Nat.le_of_ble_eq_true rfl) hR.1, Nat.le_trans (Nat.le_of_ble_eq_true rfl) hR.2⟩ ⟨Nat.zero_le _, Nat.zero_le _⟩ rfl rfl dX9_mixedWith_5 ?_
  refine g_astore_n (L' := [(3, rv b r6), (0, rv b (some this)), (1, .int p1), (2, .int p2)]) (pc := 8) G dX9_mixedWith_8 (by decide) rfl ?_
  refine g_aload_n (pc := 9) G dX9_mixedWith_9 0 rfl ?_
  cases r6 with
  | none =>
    dsimp only at h
    refine g_ifnullN (pc := 10) G 20 dX9_mixedWith_10 (by decide) ?_
    refine g_iconst (pc := 20) G (v := 0) dX9_mixedWith_20 (by decide) ?_
    cases h
    exact g_iret (pc := 21) G dX9_mixedWith_21
  | some r7 =>
    dsimp only at h
    refine g_ifnullS (pc := 10) G dX9_mixedWith_10 ?_
    refine g_aload_n (pc := 13) G dX9_mixedWith_13 0 rfl ?_
    obtain ⟨r10, e9, h⟩ := bd_e h
    have k8 : kd T r7 = 4 := by
      obtain ⟨ee, k0⟩ := ck_e e9
      cases ee
      exact k0
    obtain ⟨r12, e11, h⟩ := bd_e h
    refine g_callV (pc := 14) (As := []) (rest := []) (st2 := [.int r12]) G (c_Ro_size l D ca b k8 e11) (mb_Ro_size G.2.2.2.2.1) (q508 G.2.2.2.2.1) (q509 G.2.2.2.2.1) (q507 G.2.2.2.2.1) ci_4 k8 rfl rfl (Nat.le_of_ble_eq_true rfl) ⟨Nat.le_trans (Nat.le_of_ble_eq_true rfl) hR.1, Nat.le_trans (Nat.le_of_ble_eq_true rfl) hR.2⟩ ⟨Nat.zero_le _, Nat.zero_le _⟩ rfl rfl dX9_mixedWith_14 ?_
    refine g_if_ne (pc := 17) G 22 dX9_mixedWith_17 (by decide) (fun c13 => ?_) (fun c13 => ?_)
    · rw [if_neg c13] at h
      refine g_iconst (pc := 22) G (v := 0) dX9_mixedWith_22 (by decide) ?_
      refine g_istore (L' := [(4, .int 0), (3, rv b (some r7)), (0, rv b (some this)), (1, .int p1), (2, .int p2)]) (pc := 23) G dX9_mixedWith_23 (by decide) rfl ?_
      refine g_iload_n (pc := 25) G dX9_mixedWith_25 4 rfl ?_
      refine g_istore (L' := [(5, .int p2), (4, .int 0), (3, rv b (some r7)), (0, rv b (some this)), (1, .int p1), (2, .int p2)]) (pc := 26) G dX9_mixedWith_26 (by decide) rfl ?_
      have LP18 : ∀ (n14 : Nat) (v15 : Int32) (v16 : Int32), RS_mixedWith_L28 T V this p1 r7 n14 v15 v16 = some rr → WG p l e R s m args below meth c D ca b 7 (QG D ca b (some (.int rr)) T V below args s 0 0) 0 0 T V 28 [(0, rv b (some this)), (1, .int p1), (3, rv b (some r7)), (4, .int v15), (5, .int v16)] [] := by
        intro n14
        induction n14 with
        | zero =>
          intro v15 v16 h
          cases h
        | succ n14 ih17 =>
          intro v15 v16 h
          rw [RS_mixedWith_L28.eq_def] at h
          dsimp only at h
          refine g_iload (pc := 28) G dX9_mixedWith_28 4 rfl ?_
          refine g_aload_n (pc := 30) G dX9_mixedWith_30 0 rfl ?_
          obtain ⟨r19, e20, h⟩ := bd_e h
          obtain ⟨f21, k22⟩ := ck_e e20
          refine g_getR (pc := 31) G ci_8 (uw_8 G.2.2.2.2.1) (k := 6) (by decide) rfl rfl k_this (q405 G.2.2.2.2.1) dX9_mixedWith_31 f21 ?_
          refine g_getIN (pc := 34) G ci_2 (uw_2 G.2.2.2.2.1) (k := 3) (by decide) rfl rfl k22 (q308 G.2.2.2.2.1) dX9_mixedWith_34 ?_
          refine g_icmp_ge (pc := 37) G 80 dX9_mixedWith_37 (by decide) (fun c23 => ?_) (fun c23 => ?_)
          · rw [if_pos c23] at h
            refine g_iload (pc := 80) G dX9_mixedWith_80 3 rfl ?_
            cases h
            exact g_iret (pc := 82) G dX9_mixedWith_82
          · rw [if_neg c23] at h
            refine g_aload_n (pc := 40) G dX9_mixedWith_40 0 rfl ?_
            obtain ⟨r24, e25, h⟩ := bd_e h
            obtain ⟨f26, k27⟩ := ck_e e25
            refine g_getR (pc := 41) G ci_8 (uw_8 G.2.2.2.2.1) (k := 4) (by decide) rfl rfl k_this (q403 G.2.2.2.2.1) dX9_mixedWith_41 f26 ?_
            refine g_iload (pc := 44) G dX9_mixedWith_44 4 rfl ?_
            obtain ⟨r29, e28, h⟩ := bd_e h
            refine g_callV (pc := 46) (As := [.int v16]) (rest := []) (st2 := [rv b r29]) G (c_Sc_rowOf l D ca b k27 e28) (mb_Sc_rowOf G.2.2.2.2.1) (q581 G.2.2.2.2.1) (q582 G.2.2.2.2.1) (q580 G.2.2.2.2.1) ci_5 k27 rfl rfl (Nat.le_of_ble_eq_true rfl) ⟨Nat.le_trans (Nat.le_of_ble_eq_true rfl) hR.1, Nat.le_trans (Nat.le_of_ble_eq_true rfl) hR.2⟩ ⟨Nat.zero_le _, Nat.zero_le _⟩ rfl rfl dX9_mixedWith_46 ?_
            refine g_astore (L' := [(6, rv b r29), (0, rv b (some this)), (1, .int p1), (3, rv b (some r7)), (4, .int v15), (5, .int v16)]) (pc := 49) G dX9_mixedWith_49 (by decide) rfl ?_
            refine g_iload (pc := 51) G dX9_mixedWith_51 5 rfl ?_
            refine g_iload_n (pc := 53) G dX9_mixedWith_53 2 rfl ?_
            refine g_icmp_eq (pc := 54) G 74 dX9_mixedWith_54 (by decide) (fun c30 => ?_) (fun c30 => ?_)
            · rw [if_pos c30] at h
              refine g_iinc (v := v16 + 1) (L' := [(5, .int (v16 + 1)), (6, rv b r29), (0, rv b (some this)), (1, .int p1), (3, rv b (some r7)), (4, .int v15)]) (pc := 74) G dX9_mixedWith_74 5 rfl rfl (by decide) rfl ?_
              refine g_goto (pc := 77) G 28 dX9_mixedWith_77 (by decide) ?_
              exact g_sub [2, 3, 4, 5, 0] rfl (ih17 _ _ h)
            · rw [if_neg c30] at h
              refine g_aload (pc := 57) G dX9_mixedWith_57 0 rfl ?_
              cases r29 with
              | none =>
                dsimp only at h
                refine g_ifnullN (pc := 59) G 74 dX9_mixedWith_59 (by decide) ?_
                refine g_iinc (v := v16 + 1) (L' := [(5, .int (v16 + 1)), (6, rv b none), (0, rv b (some this)), (1, .int p1), (3, rv b (some r7)), (4, .int v15)]) (pc := 74) G dX9_mixedWith_74 5 rfl rfl (by decide) rfl ?_
                refine g_goto (pc := 77) G 28 dX9_mixedWith_77 (by decide) ?_
                exact g_sub [2, 3, 4, 5, 0] rfl (ih17 _ _ h)
              | some r31 =>
                dsimp only at h
                refine g_ifnullS (pc := 59) G dX9_mixedWith_59 ?_
                refine g_aload_n (pc := 62) G dX9_mixedWith_62 3 rfl ?_
                refine g_aload (pc := 63) G dX9_mixedWith_63 0 rfl ?_
                obtain ⟨r34, e33, h⟩ := bd_e h
                have k32 : kd T r31 = 4 := by
                  obtain ⟨ee, k0⟩ := ck_e e33
                  cases ee
                  exact k0
                obtain ⟨r36, e35, h⟩ := bd_e h
                refine g_callV (pc := 65) (As := [rv b (some r31)]) (rest := []) (st2 := [.int r36]) G (c_Ro_isSameAs l D ca b k8 k32 e35) (mb_Ro_isSameAs G.2.2.2.2.1) (q643 G.2.2.2.2.1) (q644 G.2.2.2.2.1) (q642 G.2.2.2.2.1) ci_4 k8 rfl rfl (Nat.le_of_ble_eq_true rfl) ⟨Nat.le_trans (Nat.le_of_ble_eq_true rfl) hR.1, Nat.le_trans (Nat.le_of_ble_eq_true rfl) hR.2⟩ ⟨Nat.zero_le _, Nat.zero_le _⟩ rfl rfl dX9_mixedWith_65 ?_
                refine g_if_eq (pc := 68) G 74 dX9_mixedWith_68 (by decide) (fun c37 => ?_) (fun c37 => ?_)
                · rw [if_pos c37] at h
                  refine g_iinc (v := v16 + 1) (L' := [(5, .int (v16 + 1)), (6, rv b (some r31)), (0, rv b (some this)), (1, .int p1), (3, rv b (some r7)), (4, .int v15)]) (pc := 74) G dX9_mixedWith_74 5 rfl rfl (by decide) rfl ?_
                  refine g_goto (pc := 77) G 28 dX9_mixedWith_77 (by decide) ?_
                  exact g_sub [2, 3, 4, 5, 0] rfl (ih17 _ _ h)
                · rw [if_neg c37] at h
                  refine g_iinc (v := v15 + 1) (L' := [(4, .int (v15 + 1)), (6, rv b (some r31)), (0, rv b (some this)), (1, .int p1), (3, rv b (some r7)), (5, .int v16)]) (pc := 71) G dX9_mixedWith_71 4 rfl rfl (by decide) rfl ?_
                  refine g_iinc (v := v16 + 1) (L' := [(5, .int (v16 + 1)), (4, .int (v15 + 1)), (6, rv b (some r31)), (0, rv b (some this)), (1, .int p1), (3, rv b (some r7))]) (pc := 74) G dX9_mixedWith_74 5 rfl rfl (by decide) rfl ?_
                  refine g_goto (pc := 77) G 28 dX9_mixedWith_77 (by decide) ?_
                  exact g_sub [3, 4, 5, 1, 0] rfl (ih17 _ _ h)
      exact g_sub [3, 4, 2, 1, 0] rfl (LP18 _ _ _ h)
    · rw [if_pos c13] at h
      refine g_iconst (pc := 20) G (v := 0) dX9_mixedWith_20 (by decide) ?_
      cases h
      exact g_iret (pc := 21) G dX9_mixedWith_21
theorem c_RS_mixedWith (l : Launch) (D : va_G) (ca : Nat → ClassId) (b : Nat) {T : Tx} {V : Vx} {this : Nat} {p1 : Int32} {p2 : Int32} {rr : Int32}  (k_this : kd T this = 8) (h : RS_mixedWith T V this p1 p2 = some rr) : MG l yX9_mixedWith cX9_mixedWith 7 (Option.some Jvm.ClassFile.FieldType.int) 2 43 0 0 D ca b [rv b (some this), .int p1, .int p2] T V (some (.int rr)) T V :=
  MG.ofWG (L := [(0, rv b (some this)), (1, .int p1), (2, .int p2)]) (by decide +kernel) rfl (Nat.le_of_ble_eq_true rfl) (fun _ _ _ _ _ _ _ G _ => w_RS_mixedWith G ⟨Nat.le_refl _, Nat.le_refl _⟩ k_this h)
set_option maxHeartbeats 4000000 in
set_option maxRecDepth 100000 in
theorem w_RS_word {p : Program} {l : Launch} {e : Env} {R : Room} {s : State} {m : MethodId} {args : Array Value} {below : List Frame} {meth : Method} {c : Code} {D : va_G} {ca : Nat → ClassId} {b : Nat} {T : Tx} {V : Vx} (G : GX p s m meth c cX9_word 4 (Option.some Jvm.ClassFile.FieldType.int) RX9 "word" D ca b) (hR : 5 ≤ R.frames ∧ 126 ≤ R.locals) {this : Nat} {p1 : Int32} {p2 : Int32} {rr : Int32} {Vf : Vx} (k_this : kd T this = 8) (h : RS_word T V this p1 p2 = some (rr, Vf)) : WG p l e R s m args below meth c D ca b 4 (QG D ca b (some (.int rr)) T Vf below args s 0 0) 0 0 T V 0 [(0, rv b (some this)), (1, .int p1), (2, .int p2)] [] := by
  unfold RS_word at h
  refine g_aload_n (pc := 0) G dX9_word_0 0 rfl ?_
  obtain ⟨r1, e2, h⟩ := bd_e h
  obtain ⟨f3, k4⟩ := ck_e e2
  refine g_getR (pc := 1) G ci_8 (uw_8 G.2.2.2.2.1) (k := 6) (by decide) rfl rfl k_this (q405 G.2.2.2.2.1) dX9_word_1 f3 ?_
  refine g_iload_n (pc := 4) G dX9_word_4 1 rfl ?_
  obtain ⟨r6, e5, h⟩ := bd_e h
  refine g_callV (pc := 5) (As := [.int p1]) (rest := []) (st2 := [rv b r6]) G (c_Lx_wordAt l D ca b k4 e5) (mb_Lx_wordAt G.2.2.2.2.1) (q388 G.2.2.2.2.1) (q389 G.2.2.2.2.1) (q592 G.2.2.2.2.1) ci_2 k4 rfl rfl (Nat.le_of_ble_eq_true rfl) ⟨Nat.le_trans (Nat.le_of_ble_eq_true rfl) hR.1, Nat.le_trans (Nat.le_of_ble_eq_true rfl) hR.2⟩ ⟨Nat.zero_le _, Nat.zero_le _⟩ rfl rfl dX9_word_5 ?_
  refine g_astore_n (L' := [(3, rv b r6), (0, rv b (some this)), (1, .int p1), (2, .int p2)]) (pc := 8) G dX9_word_8 (by decide) rfl ?_
  refine g_aload_n (pc := 9) G dX9_word_9 0 rfl ?_
  cases r6 with
  | none =>
    dsimp only at h
    refine g_ifnonnullN (pc := 10) G dX9_word_10 ?_
    refine g_iconst (pc := 13) G (v := (-1)) dX9_word_13 (by decide) ?_
    cases h
    exact g_iret (pc := 14) G dX9_word_14
  | some r7 =>
    dsimp only at h
    refine g_ifnonnullS (pc := 10) G 15 dX9_word_10 (by decide) ?_
    refine g_iload_n (pc := 15) G dX9_word_15 3 rfl ?_
    by_cases c8 : p2 = 0
    · rw [if_pos c8] at h
      have K12 : WG p l e R s m args below meth c D ca b 4 (QG D ca b (some (.int rr)) T Vf below args s 0 0) 0 0 T V 52 [(3, rv b (some r7)), (0, rv b (some this)), (1, .int p1), (2, .int p2)] [] := by
        refine g_aload_n (pc := 52) G dX9_word_52 0 rfl ?_
        obtain ⟨r11, e10, h⟩ := bd_e h
        have k9 : kd T r7 = 7 := by
          obtain ⟨ee, k0⟩ := ck_e e10
          cases ee
          exact k0
        refine g_getIN (pc := 53) G ci_7 (uw_7 G.2.2.2.2.1) (k := 1) (by decide) rfl rfl k9 (q294 G.2.2.2.2.1) dX9_word_53 ?_
        cases h
        exact g_iret (pc := 56) G dX9_word_56
      exact g_tabI (pc := 16) G 52 dX9_word_16 (by rw [c8] <;> decide) (by rw [c8] <;> decide) (by rw [c8] <;> rfl) (by decide) K12
    · rw [if_neg c8] at h
      by_cases c13 : p2 = 1
      · rw [if_pos c13] at h
        have K23 : WG p l e R s m args below meth c D ca b 4 (QG D ca b (some (.int rr)) T Vf below args s 0 0) 0 0 T V 57 [(3, rv b (some r7)), (0, rv b (some this)), (1, .int p1), (2, .int p2)] [] := by
          refine g_aload_n (pc := 57) G dX9_word_57 0 rfl ?_
          obtain ⟨r16, e15, h⟩ := bd_e h
          have k14 : kd T r7 = 7 := by
            obtain ⟨ee, k0⟩ := ck_e e15
            cases ee
            exact k0
          obtain ⟨r17, e18, h⟩ := bd_e h
          obtain ⟨f19, k20⟩ := ck_e e18
          refine g_getRN (pc := 58) G ci_7 (uw_7 G.2.2.2.2.1) (k := 0) (by decide) rfl rfl k14 (q290 G.2.2.2.2.1) dX9_word_58 f19 ?_
          obtain ⟨r22, e21, h⟩ := bd_e h
          refine g_callV (pc := 61) (As := []) (rest := []) (st2 := [.int r22]) G (c_Le_size l D ca b k20 e21) (mb_Le_size G.2.2.2.2.1) (q332 G.2.2.2.2.1) (q333 G.2.2.2.2.1) (q432 G.2.2.2.2.1) ci_1 k20 rfl rfl (Nat.le_of_ble_eq_true rfl) ⟨Nat.le_trans (Nat.le_of_ble_eq_true rfl) hR.1, Nat.le_trans (Nat.le_of_ble_eq_true rfl) hR.2⟩ ⟨Nat.zero_le _, Nat.zero_le _⟩ rfl rfl dX9_word_61 ?_
          cases h
          exact g_iret (pc := 64) G dX9_word_64
        exact g_tabI (pc := 16) G 57 dX9_word_16 (by rw [c13] <;> decide) (by rw [c13] <;> decide) (by rw [c13] <;> rfl) (by decide) K23
      · rw [if_neg c13] at h
        by_cases c24 : p2 = 2
        · rw [if_pos c24] at h
          have K34 : WG p l e R s m args below meth c D ca b 4 (QG D ca b (some (.int rr)) T Vf below args s 0 0) 0 0 T V 65 [(3, rv b (some r7)), (0, rv b (some this)), (1, .int p1), (2, .int p2)] [] := by
            refine g_aload_n (pc := 65) G dX9_word_65 0 rfl ?_
            obtain ⟨r27, e26, h⟩ := bd_e h
            have k25 : kd T r7 = 7 := by
              obtain ⟨ee, k0⟩ := ck_e e26
              cases ee
              exact k0
            obtain ⟨r28, e29, h⟩ := bd_e h
            obtain ⟨f30, k31⟩ := ck_e e29
            refine g_getRN (pc := 66) G ci_7 (uw_7 G.2.2.2.2.1) (k := 0) (by decide) rfl rfl k25 (q290 G.2.2.2.2.1) dX9_word_66 f30 ?_
            obtain ⟨r33, e32, h⟩ := bd_e h
            refine g_callV (pc := 69) (As := []) (rest := []) (st2 := [.int r33]) G (c_Le_vowels l D ca b k31 e32) (mb_Le_vowels G.2.2.2.2.1) (q594 G.2.2.2.2.1) (q595 G.2.2.2.2.1) (q593 G.2.2.2.2.1) ci_1 k31 rfl rfl (Nat.le_of_ble_eq_true rfl) ⟨Nat.le_trans (Nat.le_of_ble_eq_true rfl) hR.1, Nat.le_trans (Nat.le_of_ble_eq_true rfl) hR.2⟩ ⟨Nat.zero_le _, Nat.zero_le _⟩ rfl rfl dX9_word_69 ?_
            cases h
            exact g_iret (pc := 72) G dX9_word_72
          exact g_tabI (pc := 16) G 65 dX9_word_16 (by rw [c24] <;> decide) (by rw [c24] <;> decide) (by rw [c24] <;> rfl) (by decide) K34
        · rw [if_neg c24] at h
          by_cases c35 : p2 = 3
          · rw [if_pos c35] at h
            have K49 : WG p l e R s m args below meth c D ca b 4 (QG D ca b (some (.int rr)) T Vf below args s 0 0) 0 0 T V 73 [(3, rv b (some r7)), (0, rv b (some this)), (1, .int p1), (2, .int p2)] [] := by
              refine g_aload_n (pc := 73) G dX9_word_73 1 rfl ?_
              obtain ⟨r36, e37, h⟩ := bd_e h
              obtain ⟨f38, k39⟩ := ck_e e37
              refine g_getR (pc := 74) G ci_8 (uw_8 G.2.2.2.2.1) (k := 4) (by decide) rfl rfl k_this (q403 G.2.2.2.2.1) dX9_word_74 f38 ?_
              refine g_aload_n (pc := 77) G dX9_word_77 1 rfl ?_
              obtain ⟨r40, e41, h⟩ := bd_e h
              obtain ⟨f42, k43⟩ := ck_e e41
              refine g_getR (pc := 78) G ci_8 (uw_8 G.2.2.2.2.1) (k := 6) (by decide) rfl rfl k_this (q405 G.2.2.2.2.1) dX9_word_78 f42 ?_
              obtain ⟨V45, e44, h⟩ := bd_e h
              refine g_callV (pc := 81) (As := [rv b (some r40)]) (rest := []) (st2 := []) G (c_Sc_settle l D ca b k39 k43 e44) (mb_Sc_settle G.2.2.2.2.1) (q552 G.2.2.2.2.1) (q553 G.2.2.2.2.1) (q551 G.2.2.2.2.1) ci_5 k39 rfl rfl (Nat.le_of_ble_eq_true rfl) ⟨Nat.le_trans (Nat.le_of_ble_eq_true rfl) hR.1, Nat.le_trans (Nat.le_of_ble_eq_true rfl) hR.2⟩ ⟨Nat.zero_le _, Nat.zero_le _⟩ rfl rfl dX9_word_81 ?_
              refine g_aload_n (pc := 84) G dX9_word_84 1 rfl ?_
              refine g_iload_n (pc := 85) G dX9_word_85 2 rfl ?_
              obtain ⟨r48, V47, e46, h⟩ := bd2_e h
              refine g_callV (pc := 86) (As := [.int p1]) (rest := []) (st2 := [.int r48]) G (c_RS_clearness l D ca b k_this e46) (mb_RS_clearness G.2.2.2.2.1) (q600 G.2.2.2.2.1) (q7 G.2.2.2.2.1) (q598 G.2.2.2.2.1) ci_8 k_this rfl rfl (Nat.le_of_ble_eq_true rfl) ⟨Nat.le_trans (Nat.le_of_ble_eq_true rfl) hR.1, Nat.le_trans (Nat.le_of_ble_eq_true rfl) hR.2⟩ ⟨Nat.zero_le _, Nat.zero_le _⟩ rfl rfl dX9_word_86 ?_
              cases h
              exact g_iret (pc := 89) G dX9_word_89
            exact g_tabI (pc := 16) G 73 dX9_word_16 (by rw [c35] <;> decide) (by rw [c35] <;> decide) (by rw [c35] <;> rfl) (by decide) K49
          · rw [if_neg c35] at h
            by_cases c50 : p2 = 4
            · rw [if_pos c50] at h
              have K63 : WG p l e R s m args below meth c D ca b 4 (QG D ca b (some (.int rr)) T Vf below args s 0 0) 0 0 T V 90 [(3, rv b (some r7)), (0, rv b (some this)), (1, .int p1), (2, .int p2)] [] := by
                refine g_aload_n (pc := 90) G dX9_word_90 1 rfl ?_
                obtain ⟨r51, e52, h⟩ := bd_e h
                obtain ⟨f53, k54⟩ := ck_e e52
                refine g_getR (pc := 91) G ci_8 (uw_8 G.2.2.2.2.1) (k := 4) (by decide) rfl rfl k_this (q403 G.2.2.2.2.1) dX9_word_91 f53 ?_
                refine g_aload_n (pc := 94) G dX9_word_94 1 rfl ?_
                obtain ⟨r55, e56, h⟩ := bd_e h
                obtain ⟨f57, k58⟩ := ck_e e56
                refine g_getR (pc := 95) G ci_8 (uw_8 G.2.2.2.2.1) (k := 6) (by decide) rfl rfl k_this (q405 G.2.2.2.2.1) dX9_word_95 f57 ?_
                obtain ⟨V60, e59, h⟩ := bd_e h
                refine g_callV (pc := 98) (As := [rv b (some r55)]) (rest := []) (st2 := []) G (c_Sc_settle l D ca b k54 k58 e59) (mb_Sc_settle G.2.2.2.2.1) (q552 G.2.2.2.2.1) (q553 G.2.2.2.2.1) (q551 G.2.2.2.2.1) ci_5 k54 rfl rfl (Nat.le_of_ble_eq_true rfl) ⟨Nat.le_trans (Nat.le_of_ble_eq_true rfl) hR.1, Nat.le_trans (Nat.le_of_ble_eq_true rfl) hR.2⟩ ⟨Nat.zero_le _, Nat.zero_le _⟩ rfl rfl dX9_word_98 ?_
                refine g_aload_n (pc := 101) G dX9_word_101 1 rfl ?_
                refine g_iload_n (pc := 102) G dX9_word_102 2 rfl ?_
                refine g_iconst (pc := 103) G (v := 0) dX9_word_103 (by decide) ?_
                obtain ⟨r62, e61, h⟩ := bd_e h
                refine g_callV (pc := 104) (As := [.int p1, .int 0]) (rest := []) (st2 := [.int r62]) G (c_RS_mixedWith l D ca b k_this e61) (mb_RS_mixedWith G.2.2.2.2.1) (q640 G.2.2.2.2.1) (q9 G.2.2.2.2.1) (q638 G.2.2.2.2.1) ci_8 k_this rfl rfl (Nat.le_of_ble_eq_true rfl) ⟨Nat.le_trans (Nat.le_of_ble_eq_true rfl) hR.1, Nat.le_trans (Nat.le_of_ble_eq_true rfl) hR.2⟩ ⟨Nat.zero_le _, Nat.zero_le _⟩ rfl rfl dX9_word_104 ?_
                cases h
                exact g_iret (pc := 107) G dX9_word_107
              exact g_tabI (pc := 16) G 90 dX9_word_16 (by rw [c50] <;> decide) (by rw [c50] <;> decide) (by rw [c50] <;> rfl) (by decide) K63
            · rw [if_neg c50] at h
              have K64 : WG p l e R s m args below meth c D ca b 4 (QG D ca b (some (.int rr)) T Vf below args s 0 0) 0 0 T V 108 [(3, rv b (some r7)), (0, rv b (some this)), (1, .int p1), (2, .int p2)] [] := by
                refine g_iconst (pc := 108) G (v := (-1)) dX9_word_108 (by decide) ?_
                cases h
                exact g_iret (pc := 109) G dX9_word_109
              have c8T := lv_neT (a := 0) c8 (by decide)
              have c13T := lv_neT (a := 1) c13 (by decide)
              have c24T := lv_neT (a := 2) c24 (by decide)
              have c35T := lv_neT (a := 3) c35 (by decide)
              have c50T := lv_neT (a := 4) c50 (by decide)
              exact g_tabO (pc := 16) G 108 dX9_word_16 (by omega) (by decide) K64
theorem c_RS_word (l : Launch) (D : va_G) (ca : Nat → ClassId) (b : Nat) {T : Tx} {V : Vx} {this : Nat} {p1 : Int32} {p2 : Int32} {rr : Int32} {Vf : Vx} (k_this : kd T this = 8) (h : RS_word T V this p1 p2 = some (rr, Vf)) : MG l yX9_word cX9_word 4 (Option.some Jvm.ClassFile.FieldType.int) 5 126 0 0 D ca b [rv b (some this), .int p1, .int p2] T V (some (.int rr)) T Vf :=
  MG.ofWG (L := [(0, rv b (some this)), (1, .int p1), (2, .int p2)]) (by decide +kernel) rfl (Nat.le_of_ble_eq_true rfl) (fun _ _ _ _ _ _ _ G _ => w_RS_word G ⟨Nat.le_refl _, Nat.le_refl _⟩ k_this h)
set_option maxHeartbeats 4000000 in
set_option maxRecDepth 100000 in
theorem w_RS_least {p : Program} {l : Launch} {e : Env} {R : Room} {s : State} {m : MethodId} {args : Array Value} {below : List Frame} {meth : Method} {c : Code} {D : va_G} {ca : Nat → ClassId} {b : Nat} {T : Tx} {V : Vx} (G : GX p s m meth c cX9_least 5 (Option.some Jvm.ClassFile.FieldType.int) RX9 "least" D ca b) (hR : 5 ≤ R.frames ∧ 125 ≤ R.locals) {this : Nat} {p1 : Int32} {p2 : Int32} {rr : Int32} {Vf : Vx} (k_this : kd T this = 8) (h : RS_least T V this p1 p2 = some (rr, Vf)) : WG p l e R s m args below meth c D ca b 5 (QG D ca b (some (.int rr)) T Vf below args s 0 0) 0 0 T V 0 [(0, rv b (some this)), (1, .int p1), (2, .int p2)] [] := by
  unfold RS_least at h
  refine g_aload_n (pc := 0) G dX9_least_0 0 rfl ?_
  obtain ⟨r1, e2, h⟩ := bd_e h
  obtain ⟨f3, k4⟩ := ck_e e2
  refine g_getR (pc := 1) G ci_8 (uw_8 G.2.2.2.2.1) (k := 6) (by decide) rfl rfl k_this (q405 G.2.2.2.2.1) dX9_least_1 f3 ?_
  refine g_iload_n (pc := 4) G dX9_least_4 1 rfl ?_
  obtain ⟨r6, e5, h⟩ := bd_e h
  refine g_callV (pc := 5) (As := [.int p1]) (rest := []) (st2 := [rv b r6]) G (c_Lx_wordAt l D ca b k4 e5) (mb_Lx_wordAt G.2.2.2.2.1) (q388 G.2.2.2.2.1) (q389 G.2.2.2.2.1) (q592 G.2.2.2.2.1) ci_2 k4 rfl rfl (Nat.le_of_ble_eq_true rfl) ⟨Nat.le_trans (Nat.le_of_ble_eq_true rfl) hR.1, Nat.le_trans (Nat.le_of_ble_eq_true rfl) hR.2⟩ ⟨Nat.zero_le _, Nat.zero_le _⟩ rfl rfl dX9_least_5 ?_
  refine g_astore_n (L' := [(3, rv b r6), (0, rv b (some this)), (1, .int p1), (2, .int p2)]) (pc := 8) G dX9_least_8 (by decide) rfl ?_
  refine g_aload_n (pc := 9) G dX9_least_9 0 rfl ?_
  cases r6 with
  | none =>
    dsimp only at h
    refine g_ifnullN (pc := 10) G 19 dX9_least_10 (by decide) ?_
    refine g_iconst (pc := 19) G (v := (-1)) dX9_least_19 (by decide) ?_
    cases h
    exact g_iret (pc := 20) G dX9_least_20
  | some r7 =>
    dsimp only at h
    refine g_ifnullS (pc := 10) G dX9_least_10 ?_
    refine g_iload_n (pc := 13) G dX9_least_13 3 rfl ?_
    refine g_bipush (pc := 14) G (v := (-2)) dX9_least_14 (by decide) ?_
    refine g_icmp_ge (pc := 16) G 21 dX9_least_16 (by decide) (fun c8 => ?_) (fun c8 => ?_)
    · rw [if_pos c8] at h
      refine g_aload_n (pc := 21) G dX9_least_21 1 rfl ?_
      obtain ⟨r9, e10, h⟩ := bd_e h
      obtain ⟨f11, k12⟩ := ck_e e10
      refine g_getR (pc := 22) G ci_8 (uw_8 G.2.2.2.2.1) (k := 4) (by decide) rfl rfl k_this (q403 G.2.2.2.2.1) dX9_least_22 f11 ?_
      refine g_aload_n (pc := 25) G dX9_least_25 1 rfl ?_
      obtain ⟨r13, e14, h⟩ := bd_e h
      obtain ⟨f15, k16⟩ := ck_e e14
      refine g_getR (pc := 26) G ci_8 (uw_8 G.2.2.2.2.1) (k := 6) (by decide) rfl rfl k_this (q405 G.2.2.2.2.1) dX9_least_26 f15 ?_
      obtain ⟨V18, e17, h⟩ := bd_e h
      refine g_callV (pc := 29) (As := [rv b (some r13)]) (rest := []) (st2 := []) G (c_Sc_settle l D ca b k12 k16 e17) (mb_Sc_settle G.2.2.2.2.1) (q552 G.2.2.2.2.1) (q553 G.2.2.2.2.1) (q551 G.2.2.2.2.1) ci_5 k12 rfl rfl (Nat.le_of_ble_eq_true rfl) ⟨Nat.le_trans (Nat.le_of_ble_eq_true rfl) hR.1, Nat.le_trans (Nat.le_of_ble_eq_true rfl) hR.2⟩ ⟨Nat.zero_le _, Nat.zero_le _⟩ rfl rfl dX9_least_29 ?_
      refine g_aload_n (pc := 32) G dX9_least_32 1 rfl ?_
      obtain ⟨r19, e20, h⟩ := bd_e h
      obtain ⟨f21, k22⟩ := ck_e e20
      refine g_getR (pc := 33) G ci_8 (uw_8 G.2.2.2.2.1) (k := 4) (by decide) rfl rfl k_this (q403 G.2.2.2.2.1) dX9_least_33 f21 ?_
      refine g_iload_n (pc := 36) G dX9_least_36 2 rfl ?_
      obtain ⟨r24, e23, h⟩ := bd_e h
      refine g_callV (pc := 37) (As := [.int p1]) (rest := []) (st2 := [rv b r24]) G (c_Sc_rowOf l D ca b k22 e23) (mb_Sc_rowOf G.2.2.2.2.1) (q581 G.2.2.2.2.1) (q582 G.2.2.2.2.1) (q580 G.2.2.2.2.1) ci_5 k22 rfl rfl (Nat.le_of_ble_eq_true rfl) ⟨Nat.le_trans (Nat.le_of_ble_eq_true rfl) hR.1, Nat.le_trans (Nat.le_of_ble_eq_true rfl) hR.2⟩ ⟨Nat.zero_le _, Nat.zero_le _⟩ rfl rfl dX9_least_37 ?_
      refine g_astore (L' := [(4, rv b r24), (3, rv b (some r7)), (0, rv b (some this)), (1, .int p1), (2, .int p2)]) (pc := 40) G dX9_least_40 (by decide) rfl ?_
      refine g_aload (pc := 42) G dX9_least_42 0 rfl ?_
      cases r24 with
      | none =>
        dsimp only at h
        refine g_ifnullN (pc := 44) G 55 dX9_least_44 (by decide) ?_
        refine g_bipush (pc := 55) G (v := (-4)) dX9_least_55 (by decide) ?_
        cases h
        exact g_iret (pc := 57) G dX9_least_57
      | some r25 =>
        dsimp only at h
        refine g_ifnullS (pc := 44) G dX9_least_44 ?_
        refine g_aload (pc := 47) G dX9_least_47 0 rfl ?_
        obtain ⟨r28, e27, h⟩ := bd_e h
        have k26 : kd T r25 = 4 := by
          obtain ⟨ee, k0⟩ := ck_e e27
          cases ee
          exact k0
        obtain ⟨r30, e29, h⟩ := bd_e h
        refine g_callV (pc := 49) (As := []) (rest := []) (st2 := [.int r30]) G (c_Ro_size l D ca b k26 e29) (mb_Ro_size G.2.2.2.2.1) (q508 G.2.2.2.2.1) (q509 G.2.2.2.2.1) (q507 G.2.2.2.2.1) ci_4 k26 rfl rfl (Nat.le_of_ble_eq_true rfl) ⟨Nat.le_trans (Nat.le_of_ble_eq_true rfl) hR.1, Nat.le_trans (Nat.le_of_ble_eq_true rfl) hR.2⟩ ⟨Nat.zero_le _, Nat.zero_le _⟩ rfl rfl dX9_least_49 ?_
        refine g_if_ne (pc := 52) G 58 dX9_least_52 (by decide) (fun c31 => ?_) (fun c31 => ?_)
        · rw [if_neg c31] at h
          refine g_iload_n (pc := 58) G dX9_least_58 4 rfl ?_
          refine g_iconst (pc := 59) G (v := (-1)) dX9_least_59 (by decide) ?_
          refine g_icmp_ne (pc := 60) G 69 dX9_least_60 (by decide) (fun c32 => ?_) (fun c32 => ?_)
          · rw [if_neg c32] at h
            refine g_iload_n (pc := 69) G dX9_least_69 4 rfl ?_
            refine g_bipush (pc := 70) G (v := (-2)) dX9_least_70 (by decide) ?_
            refine g_icmp_ne (pc := 72) G 93 dX9_least_72 (by decide) (fun c33 => ?_) (fun c33 => ?_)
            · rw [if_neg c33] at h
              refine g_aload (pc := 93) G dX9_least_93 0 rfl ?_
              refine g_iload_n (pc := 95) G dX9_least_95 4 rfl ?_
              obtain ⟨r35, e34, h⟩ := bd_e h
              refine g_callV (pc := 96) (As := [.int p2]) (rest := []) (st2 := [.int r35]) G (c_Ro_at l D ca b k26 e34) (mb_Ro_at G.2.2.2.2.1) (q520 G.2.2.2.2.1) (q521 G.2.2.2.2.1) (q656 G.2.2.2.2.1) ci_4 k26 rfl rfl (Nat.le_of_ble_eq_true rfl) ⟨Nat.le_trans (Nat.le_of_ble_eq_true rfl) hR.1, Nat.le_trans (Nat.le_of_ble_eq_true rfl) hR.2⟩ ⟨Nat.zero_le _, Nat.zero_le _⟩ rfl rfl dX9_least_96 ?_
              cases h
              exact g_iret (pc := 99) G dX9_least_99
            · rw [if_pos c33] at h
              refine g_aload_n (pc := 75) G dX9_least_75 1 rfl ?_
              obtain ⟨r38, e37, h⟩ := bd_e h
              have k36 : kd T r7 = 7 := by
                obtain ⟨ee, k0⟩ := ck_e e37
                cases ee
                exact k0
              obtain ⟨r39, e40, h⟩ := bd_e h
              obtain ⟨f41, k42⟩ := ck_e e40
              refine g_getRN (pc := 76) G ci_7 (uw_7 G.2.2.2.2.1) (k := 0) (by decide) rfl rfl k36 (q290 G.2.2.2.2.1) dX9_least_76 f41 ?_
              obtain ⟨r44, e43, h⟩ := bd_e h
              refine g_callV (pc := 79) (As := []) (rest := []) (st2 := [.int r44]) G (c_Le_size l D ca b k42 e43) (mb_Le_size G.2.2.2.2.1) (q332 G.2.2.2.2.1) (q333 G.2.2.2.2.1) (q432 G.2.2.2.2.1) ci_1 k42 rfl rfl (Nat.le_of_ble_eq_true rfl) ⟨Nat.le_trans (Nat.le_of_ble_eq_true rfl) hR.1, Nat.le_trans (Nat.le_of_ble_eq_true rfl) hR.2⟩ ⟨Nat.zero_le _, Nat.zero_le _⟩ rfl rfl dX9_least_79 ?_
              refine g_aload_n (pc := 82) G dX9_least_82 2 rfl ?_
              obtain ⟨r45, e46, h⟩ := bd_e h
              obtain ⟨f47, k48⟩ := ck_e e46
              refine g_getR (pc := 83) G ci_8 (uw_8 G.2.2.2.2.1) (k := 6) (by decide) rfl rfl k_this (q405 G.2.2.2.2.1) dX9_least_83 f47 ?_
              refine g_aload (pc := 86) G dX9_least_86 0 rfl ?_
              obtain ⟨r50, e49, h⟩ := bd_e h
              refine g_callV (pc := 88) (As := [rv b (some r25)]) (rest := [.int r44]) (st2 := [.int r50, .int r44]) G (c_Lx_lettersOf l D ca b k48 k26 e49) (mb_Lx_lettersOf G.2.2.2.2.1) (q651 G.2.2.2.2.1) (q652 G.2.2.2.2.1) (q650 G.2.2.2.2.1) ci_2 k48 rfl rfl (Nat.le_of_ble_eq_true rfl) ⟨Nat.le_trans (Nat.le_of_ble_eq_true rfl) hR.1, Nat.le_trans (Nat.le_of_ble_eq_true rfl) hR.2⟩ ⟨Nat.zero_le _, Nat.zero_le _⟩ rfl rfl dX9_least_88 ?_
              refine g_isub (pc := 91) G dX9_least_91 ?_
              cases h
              exact g_iret (pc := 92) G dX9_least_92
          · rw [if_pos c32] at h
            refine g_aload (pc := 63) G dX9_least_63 0 rfl ?_
            obtain ⟨r52, e51, h⟩ := bd_e h
            refine g_callV (pc := 65) (As := []) (rest := []) (st2 := [.int r52]) G (c_Ro_size l D ca b k26 e51) (mb_Ro_size G.2.2.2.2.1) (q508 G.2.2.2.2.1) (q509 G.2.2.2.2.1) (q507 G.2.2.2.2.1) ci_4 k26 rfl rfl (Nat.le_of_ble_eq_true rfl) ⟨Nat.le_trans (Nat.le_of_ble_eq_true rfl) hR.1, Nat.le_trans (Nat.le_of_ble_eq_true rfl) hR.2⟩ ⟨Nat.zero_le _, Nat.zero_le _⟩ rfl rfl dX9_least_65 ?_
            cases h
            exact g_iret (pc := 68) G dX9_least_68
        · rw [if_pos c31] at h
          refine g_bipush (pc := 55) G (v := (-4)) dX9_least_55 (by decide) ?_
          cases h
          exact g_iret (pc := 57) G dX9_least_57
    · rw [if_neg c8] at h
      refine g_iconst (pc := 19) G (v := (-1)) dX9_least_19 (by decide) ?_
      cases h
      exact g_iret (pc := 20) G dX9_least_20
theorem c_RS_least (l : Launch) (D : va_G) (ca : Nat → ClassId) (b : Nat) {T : Tx} {V : Vx} {this : Nat} {p1 : Int32} {p2 : Int32} {rr : Int32} {Vf : Vx} (k_this : kd T this = 8) (h : RS_least T V this p1 p2 = some (rr, Vf)) : MG l yX9_least cX9_least 5 (Option.some Jvm.ClassFile.FieldType.int) 5 125 0 0 D ca b [rv b (some this), .int p1, .int p2] T V (some (.int rr)) T Vf :=
  MG.ofWG (L := [(0, rv b (some this)), (1, .int p1), (2, .int p2)]) (by decide +kernel) rfl (Nat.le_of_ble_eq_true rfl) (fun _ _ _ _ _ _ _ G _ => w_RS_least G ⟨Nat.le_refl _, Nat.le_refl _⟩ k_this h)
set_option maxHeartbeats 4000000 in
set_option maxRecDepth 100000 in
theorem w_RS_mark {p : Program} {l : Launch} {e : Env} {R : Room} {s : State} {m : MethodId} {args : Array Value} {below : List Frame} {meth : Method} {c : Code} {D : va_G} {ca : Nat → ClassId} {b : Nat} {T : Tx} {V : Vx} (G : GX p s m meth c cX9_mark 3 (Option.some Jvm.ClassFile.FieldType.int) RX9 "mark" D ca b) (hR : 5 ≤ R.frames ∧ 126 ≤ R.locals) {this : Nat} {p1 : Int32} {rr : Int32} {Vf : Vx} (k_this : kd T this = 8) (h : RS_mark T V this p1 = some (rr, Vf)) : WG p l e R s m args below meth c D ca b 3 (QG D ca b (some (.int rr)) T Vf below args s 0 0) 0 0 T V 0 [(0, rv b (some this)), (1, .int p1)] [] := by
  unfold RS_mark at h
  refine g_aload_n (pc := 0) G dX9_mark_0 0 rfl ?_
  obtain ⟨r1, e2, h⟩ := bd_e h
  obtain ⟨f3, k4⟩ := ck_e e2
  refine g_getR (pc := 1) G ci_8 (uw_8 G.2.2.2.2.1) (k := 6) (by decide) rfl rfl k_this (q405 G.2.2.2.2.1) dX9_mark_1 f3 ?_
  refine g_iload_n (pc := 4) G dX9_mark_4 1 rfl ?_
  obtain ⟨r6, e5, h⟩ := bd_e h
  refine g_callV (pc := 5) (As := [.int p1]) (rest := []) (st2 := [rv b r6]) G (c_Lx_wordAt l D ca b k4 e5) (mb_Lx_wordAt G.2.2.2.2.1) (q388 G.2.2.2.2.1) (q389 G.2.2.2.2.1) (q592 G.2.2.2.2.1) ci_2 k4 rfl rfl (Nat.le_of_ble_eq_true rfl) ⟨Nat.le_trans (Nat.le_of_ble_eq_true rfl) hR.1, Nat.le_trans (Nat.le_of_ble_eq_true rfl) hR.2⟩ ⟨Nat.zero_le _, Nat.zero_le _⟩ rfl rfl dX9_mark_5 ?_
  refine g_astore_n (L' := [(2, rv b r6), (0, rv b (some this)), (1, .int p1)]) (pc := 8) G dX9_mark_8 (by decide) rfl ?_
  refine g_aload_n (pc := 9) G dX9_mark_9 0 rfl ?_
  cases r6 with
  | none =>
    dsimp only at h
    refine g_ifnonnullN (pc := 10) G dX9_mark_10 ?_
    refine g_iconst (pc := 13) G (v := (-1)) dX9_mark_13 (by decide) ?_
    cases h
    exact g_iret (pc := 14) G dX9_mark_14
  | some r7 =>
    dsimp only at h
    refine g_ifnonnullS (pc := 10) G 15 dX9_mark_10 (by decide) ?_
    refine g_aload_n (pc := 15) G dX9_mark_15 1 rfl ?_
    obtain ⟨r8, e9, h⟩ := bd_e h
    obtain ⟨f10, k11⟩ := ck_e e9
    refine g_getR (pc := 16) G ci_8 (uw_8 G.2.2.2.2.1) (k := 4) (by decide) rfl rfl k_this (q403 G.2.2.2.2.1) dX9_mark_16 f10 ?_
    refine g_aload_n (pc := 19) G dX9_mark_19 1 rfl ?_
    obtain ⟨r12, e13, h⟩ := bd_e h
    obtain ⟨f14, k15⟩ := ck_e e13
    refine g_getR (pc := 20) G ci_8 (uw_8 G.2.2.2.2.1) (k := 6) (by decide) rfl rfl k_this (q405 G.2.2.2.2.1) dX9_mark_20 f14 ?_
    obtain ⟨V17, e16, h⟩ := bd_e h
    refine g_callV (pc := 23) (As := [rv b (some r12)]) (rest := []) (st2 := []) G (c_Sc_settle l D ca b k11 k15 e16) (mb_Sc_settle G.2.2.2.2.1) (q552 G.2.2.2.2.1) (q553 G.2.2.2.2.1) (q551 G.2.2.2.2.1) ci_5 k11 rfl rfl (Nat.le_of_ble_eq_true rfl) ⟨Nat.le_trans (Nat.le_of_ble_eq_true rfl) hR.1, Nat.le_trans (Nat.le_of_ble_eq_true rfl) hR.2⟩ ⟨Nat.zero_le _, Nat.zero_le _⟩ rfl rfl dX9_mark_23 ?_
    refine g_aload_n (pc := 26) G dX9_mark_26 1 rfl ?_
    refine g_iload_n (pc := 27) G dX9_mark_27 2 rfl ?_
    obtain ⟨r20, V19, e18, h⟩ := bd2_e h
    refine g_callV (pc := 28) (As := [.int p1]) (rest := []) (st2 := [.int r20]) G (c_RS_clearness l D ca b k_this e18) (mb_RS_clearness G.2.2.2.2.1) (q600 G.2.2.2.2.1) (q7 G.2.2.2.2.1) (q598 G.2.2.2.2.1) ci_8 k_this rfl rfl (Nat.le_of_ble_eq_true rfl) ⟨Nat.le_trans (Nat.le_of_ble_eq_true rfl) hR.1, Nat.le_trans (Nat.le_of_ble_eq_true rfl) hR.2⟩ ⟨Nat.zero_le _, Nat.zero_le _⟩ rfl rfl dX9_mark_28 ?_
    refine g_iconst (pc := 31) G (v := 2) dX9_mark_31 (by decide) ?_
    refine g_icmp_ne (pc := 32) G 49 dX9_mark_32 (by decide) (fun c21 => ?_) (fun c21 => ?_)
    · rw [if_neg c21] at h
      refine g_bipush (pc := 49) G (v := (-4)) dX9_mark_49 (by decide) ?_
      cases h
      exact g_iret (pc := 51) G dX9_mark_51
    · rw [if_pos c21] at h
      refine g_aload_n (pc := 35) G dX9_mark_35 1 rfl ?_
      obtain ⟨r22, e23, h⟩ := bd_e h
      obtain ⟨f24, k25⟩ := ck_e e23
      refine g_getR (pc := 36) G ci_8 (uw_8 G.2.2.2.2.1) (k := 6) (by decide) rfl rfl k_this (q405 G.2.2.2.2.1) dX9_mark_36 f24 ?_
      refine g_aload_n (pc := 39) G dX9_mark_39 0 rfl ?_
      obtain ⟨r28, e27, h⟩ := bd_e h
      have k26 : kd T r7 = 7 := by
        obtain ⟨ee, k0⟩ := ck_e e27
        cases ee
        exact k0
      refine g_getIN (pc := 40) G ci_7 (uw_7 G.2.2.2.2.1) (k := 1) (by decide) rfl rfl k26 (q294 G.2.2.2.2.1) dX9_mark_40 ?_
      obtain ⟨r30, e29, h⟩ := bd_e h
      refine g_callV (pc := 43) (As := [.int (fI V19 701 r7)]) (rest := []) (st2 := [.int r30]) G (c_Lx_lowestMark l D ca b k25 e29) (mb_Lx_lowestMark G.2.2.2.2.1) (q628 G.2.2.2.2.1) (q629 G.2.2.2.2.1) (q627 G.2.2.2.2.1) ci_2 k25 rfl rfl (Nat.le_of_ble_eq_true rfl) ⟨Nat.le_trans (Nat.le_of_ble_eq_true rfl) hR.1, Nat.le_trans (Nat.le_of_ble_eq_true rfl) hR.2⟩ ⟨Nat.zero_le _, Nat.zero_le _⟩ rfl rfl dX9_mark_43 ?_
      refine g_goto (pc := 46) G 51 dX9_mark_46 (by decide) ?_
      cases h
      exact g_iret (pc := 51) G dX9_mark_51
theorem c_RS_mark (l : Launch) (D : va_G) (ca : Nat → ClassId) (b : Nat) {T : Tx} {V : Vx} {this : Nat} {p1 : Int32} {rr : Int32} {Vf : Vx} (k_this : kd T this = 8) (h : RS_mark T V this p1 = some (rr, Vf)) : MG l yX9_mark cX9_mark 3 (Option.some Jvm.ClassFile.FieldType.int) 5 126 0 0 D ca b [rv b (some this), .int p1] T V (some (.int rr)) T Vf :=
  MG.ofWG (L := [(0, rv b (some this)), (1, .int p1)]) (by decide +kernel) rfl (Nat.le_of_ble_eq_true rfl) (fun _ _ _ _ _ _ _ G _ => w_RS_mark G ⟨Nat.le_refl _, Nat.le_refl _⟩ k_this h)
set_option maxHeartbeats 4000000 in
set_option maxRecDepth 100000 in
theorem w_RS_writings {p : Program} {l : Launch} {e : Env} {R : Room} {s : State} {m : MethodId} {args : Array Value} {below : List Frame} {meth : Method} {c : Code} {D : va_G} {ca : Nat → ClassId} {b : Nat} {T : Tx} {V : Vx} (G : GX p s m meth c cX9_writings 3 (Option.some Jvm.ClassFile.FieldType.long) RX9 "writings" D ca b) (hR : 3 ≤ R.frames ∧ 75 ≤ R.locals) {this : Nat} {p1 : Int32} {rr : Int64} {Vf : Vx} (k_this : kd T this = 8) (h : RS_writings T V this p1 = some (rr, Vf)) : WG p l e R s m args below meth c D ca b 3 (QG D ca b (some (.long rr)) T Vf below args s 0 0) 0 0 T V 0 [(0, rv b (some this)), (1, .int p1)] [] := by
  unfold RS_writings at h
  refine g_aload_n (pc := 0) G dX9_writings_0 0 rfl ?_
  obtain ⟨r1, e2, h⟩ := bd_e h
  obtain ⟨f3, k4⟩ := ck_e e2
  refine g_getR (pc := 1) G ci_8 (uw_8 G.2.2.2.2.1) (k := 6) (by decide) rfl rfl k_this (q405 G.2.2.2.2.1) dX9_writings_1 f3 ?_
  refine g_iload_n (pc := 4) G dX9_writings_4 1 rfl ?_
  obtain ⟨r6, e5, h⟩ := bd_e h
  refine g_callV (pc := 5) (As := [.int p1]) (rest := []) (st2 := [rv b r6]) G (c_Lx_wordAt l D ca b k4 e5) (mb_Lx_wordAt G.2.2.2.2.1) (q388 G.2.2.2.2.1) (q389 G.2.2.2.2.1) (q592 G.2.2.2.2.1) ci_2 k4 rfl rfl (Nat.le_of_ble_eq_true rfl) ⟨Nat.le_trans (Nat.le_of_ble_eq_true rfl) hR.1, Nat.le_trans (Nat.le_of_ble_eq_true rfl) hR.2⟩ ⟨Nat.zero_le _, Nat.zero_le _⟩ rfl rfl dX9_writings_5 ?_
  refine g_astore_n (L' := [(2, rv b r6), (0, rv b (some this)), (1, .int p1)]) (pc := 8) G dX9_writings_8 (by decide) rfl ?_
  refine g_aload_n (pc := 9) G dX9_writings_9 0 rfl ?_
  cases r6 with
  | none =>
    dsimp only at h
    refine g_ifnonnullN (pc := 10) G dX9_writings_10 ?_
    refine g_ldc2 (pc := 13) G (v := (-1)) (q665 G.2.2.2.2.1) dX9_writings_13 ?_
    cases h
    exact g_lret (pc := 16) G dX9_writings_16
  | some r7 =>
    dsimp only at h
    refine g_ifnonnullS (pc := 10) G 17 dX9_writings_10 (by decide) ?_
    refine g_aload_n (pc := 17) G dX9_writings_17 1 rfl ?_
    obtain ⟨r8, e9, h⟩ := bd_e h
    obtain ⟨f10, k11⟩ := ck_e e9
    refine g_getR (pc := 18) G ci_8 (uw_8 G.2.2.2.2.1) (k := 4) (by decide) rfl rfl k_this (q403 G.2.2.2.2.1) dX9_writings_18 f10 ?_
    refine g_aload_n (pc := 21) G dX9_writings_21 1 rfl ?_
    obtain ⟨r12, e13, h⟩ := bd_e h
    obtain ⟨f14, k15⟩ := ck_e e13
    refine g_getR (pc := 22) G ci_8 (uw_8 G.2.2.2.2.1) (k := 6) (by decide) rfl rfl k_this (q405 G.2.2.2.2.1) dX9_writings_22 f14 ?_
    refine g_aload_n (pc := 25) G dX9_writings_25 0 rfl ?_
    obtain ⟨r18, e17, h⟩ := bd_e h
    have k16 : kd T r7 = 7 := by
      obtain ⟨ee, k0⟩ := ck_e e17
      cases ee
      exact k0
    obtain ⟨r21, V20, e19, h⟩ := bd2_e h
    refine g_callV (pc := 26) (As := [rv b (some r12), rv b (some r7)]) (rest := []) (st2 := [.long r21]) G (c_Sc_rowsOfSounds l D ca b k11 k15 k16 e19) (mb_Sc_rowsOfSounds G.2.2.2.2.1) (q667 G.2.2.2.2.1) (q668 G.2.2.2.2.1) (q666 G.2.2.2.2.1) ci_5 k11 rfl rfl (Nat.le_of_ble_eq_true rfl) ⟨Nat.le_trans (Nat.le_of_ble_eq_true rfl) hR.1, Nat.le_trans (Nat.le_of_ble_eq_true rfl) hR.2⟩ ⟨Nat.zero_le _, Nat.zero_le _⟩ rfl rfl dX9_writings_26 ?_
    refine g_iconst (pc := 29) G (v := 1) dX9_writings_29 (by decide) ?_
    refine g_aload_n (pc := 30) G dX9_writings_30 1 rfl ?_
    obtain ⟨r22, e23, h⟩ := bd_e h
    obtain ⟨f24, k25⟩ := ck_e e23
    refine g_getR (pc := 31) G ci_8 (uw_8 G.2.2.2.2.1) (k := 6) (by decide) rfl rfl k_this (q405 G.2.2.2.2.1) dX9_writings_31 f24 ?_
    refine g_aload_n (pc := 34) G dX9_writings_34 0 rfl ?_
    refine g_getIN (pc := 35) G ci_7 (uw_7 G.2.2.2.2.1) (k := 1) (by decide) rfl rfl k16 (q294 G.2.2.2.2.1) dX9_writings_35 ?_
    obtain ⟨r27, e26, h⟩ := bd_e h
    refine g_callV (pc := 38) (As := [.int (fI V20 701 r7)]) (rest := [.int 1, .long r21]) (st2 := [.int r27, .int 1, .long r21]) G (c_Lx_marksOf l D ca b k25 e26) (mb_Lx_marksOf G.2.2.2.2.1) (q674 G.2.2.2.2.1) (q675 G.2.2.2.2.1) (q673 G.2.2.2.2.1) ci_2 k25 rfl rfl (Nat.le_of_ble_eq_true rfl) ⟨Nat.le_trans (Nat.le_of_ble_eq_true rfl) hR.1, Nat.le_trans (Nat.le_of_ble_eq_true rfl) hR.2⟩ ⟨Nat.zero_le _, Nat.zero_le _⟩ rfl rfl dX9_writings_38 ?_
    refine g_iadd (pc := 41) G dX9_writings_41 ?_
    refine g_i2l (pc := 42) G dX9_writings_42 ?_
    refine g_lmul (pc := 43) G dX9_writings_43 ?_
    cases h
    exact g_lret (pc := 44) G dX9_writings_44
theorem c_RS_writings (l : Launch) (D : va_G) (ca : Nat → ClassId) (b : Nat) {T : Tx} {V : Vx} {this : Nat} {p1 : Int32} {rr : Int64} {Vf : Vx} (k_this : kd T this = 8) (h : RS_writings T V this p1 = some (rr, Vf)) : MG l yX9_writings cX9_writings 3 (Option.some Jvm.ClassFile.FieldType.long) 3 75 0 0 D ca b [rv b (some this), .int p1] T V (some (.long rr)) T Vf :=
  MG.ofWG (L := [(0, rv b (some this)), (1, .int p1)]) (by decide +kernel) rfl (Nat.le_of_ble_eq_true rfl) (fun _ _ _ _ _ _ _ G _ => w_RS_writings G ⟨Nat.le_refl _, Nat.le_refl _⟩ k_this h)
set_option maxHeartbeats 4000000 in
set_option maxRecDepth 100000 in
theorem w_RS_carved {p : Program} {l : Launch} {e : Env} {R : Room} {s : State} {m : MethodId} {args : Array Value} {below : List Frame} {meth : Method} {c : Code} {D : va_G} {ca : Nat → ClassId} {b : Nat} {T : Tx} {V : Vx} (G : GX p s m meth c cX9_carved 2 (Option.some Jvm.ClassFile.FieldType.int) RX9 "carved" D ca b) (hR : 1 ≤ R.frames ∧ 21 ≤ R.locals) {this : Nat} {p1 : Int32} {rr : Int32}  (k_this : kd T this = 8) (h : RS_carved T V this p1 = some rr) : WG p l e R s m args below meth c D ca b 2 (QG D ca b (some (.int rr)) T V below args s 0 0) 0 0 T V 0 [(0, rv b (some this)), (1, .int p1)] [] := by
  unfold RS_carved at h
  refine g_iload_n (pc := 0) G dX9_carved_0 1 rfl ?_
  refine g_if_ge (pc := 1) G 8 dX9_carved_1 (by decide) (fun c1 => ?_) (fun c1 => ?_)
  · rw [if_pos c1] at h
    refine g_aload_n (pc := 8) G dX9_carved_8 0 rfl ?_
    obtain ⟨r2, e3, h⟩ := bd_e h
    obtain ⟨f4, k5⟩ := ck_e e3
    refine g_getR (pc := 9) G ci_8 (uw_8 G.2.2.2.2.1) (k := 1) (by decide) rfl rfl k_this (q400 G.2.2.2.2.1) dX9_carved_9 f4 ?_
    refine g_iload_n (pc := 12) G dX9_carved_12 1 rfl ?_
    obtain ⟨r7, e6, h⟩ := bd_e h
    refine g_callV (pc := 13) (As := [.int p1]) (rest := []) (st2 := [.int r7]) G (c_Ro_at l D ca b k5 e6) (mb_Ro_at G.2.2.2.2.1) (q520 G.2.2.2.2.1) (q521 G.2.2.2.2.1) (q656 G.2.2.2.2.1) ci_4 k5 rfl rfl (Nat.le_of_ble_eq_true rfl) ⟨Nat.le_trans (Nat.le_of_ble_eq_true rfl) hR.1, Nat.le_trans (Nat.le_of_ble_eq_true rfl) hR.2⟩ ⟨Nat.zero_le _, Nat.zero_le _⟩ rfl rfl dX9_carved_13 ?_
    cases h
    exact g_iret (pc := 16) G dX9_carved_16
  · rw [if_neg c1] at h
    refine g_iconst (pc := 4) G (v := (-1)) dX9_carved_4 (by decide) ?_
    refine g_goto (pc := 5) G 16 dX9_carved_5 (by decide) ?_
    cases h
    exact g_iret (pc := 16) G dX9_carved_16
theorem c_RS_carved (l : Launch) (D : va_G) (ca : Nat → ClassId) (b : Nat) {T : Tx} {V : Vx} {this : Nat} {p1 : Int32} {rr : Int32}  (k_this : kd T this = 8) (h : RS_carved T V this p1 = some rr) : MG l yX9_carved cX9_carved 2 (Option.some Jvm.ClassFile.FieldType.int) 1 21 0 0 D ca b [rv b (some this), .int p1] T V (some (.int rr)) T V :=
  MG.ofWG (L := [(0, rv b (some this)), (1, .int p1)]) (by decide +kernel) rfl (Nat.le_of_ble_eq_true rfl) (fun _ _ _ _ _ _ _ G _ => w_RS_carved G ⟨Nat.le_refl _, Nat.le_refl _⟩ k_this h)
set_option maxHeartbeats 4000000 in
set_option maxRecDepth 100000 in
theorem w_RS_read {p : Program} {l : Launch} {e : Env} {R : Room} {s : State} {m : MethodId} {args : Array Value} {below : List Frame} {meth : Method} {c : Code} {D : va_G} {ca : Nat → ClassId} {b : Nat} {T : Tx} {V : Vx} (G : GX p s m meth c cX9_read 3 (Option.some Jvm.ClassFile.FieldType.int) RX9 "read" D ca b) (hR : 4 ≤ R.frames ∧ 101 ≤ R.locals) {this : Nat} {p1 : Int32} {p2 : Int32} {rr : Int32} {Vf : Vx} (k_this : kd T this = 8) (h : RS_read T V this p1 p2 = some (rr, Vf)) : WG p l e R s m args below meth c D ca b 3 (QG D ca b (some (.int rr)) T Vf below args s 0 0) 0 0 T V 0 [(0, rv b (some this)), (1, .int p1), (2, .int p2)] [] := by
  unfold RS_read at h
  refine g_iload_n (pc := 0) G dX9_read_0 1 rfl ?_
  refine g_if_lt (pc := 1) G 15 dX9_read_1 (by decide) (fun c1 => ?_) (fun c1 => ?_)
  · rw [if_pos c1] at h
    refine g_iconst (pc := 15) G (v := (-1)) dX9_read_15 (by decide) ?_
    cases h
    exact g_iret (pc := 16) G dX9_read_16
  · rw [if_neg c1] at h
    refine g_iload_n (pc := 4) G dX9_read_4 2 rfl ?_
    refine g_iconst (pc := 5) G (v := 1) dX9_read_5 (by decide) ?_
    refine g_icmp_lt (pc := 6) G 15 dX9_read_6 (by decide) (fun c2 => ?_) (fun c2 => ?_)
    · rw [if_pos c2] at h
      refine g_iconst (pc := 15) G (v := (-1)) dX9_read_15 (by decide) ?_
      cases h
      exact g_iret (pc := 16) G dX9_read_16
    · rw [if_neg c2] at h
      refine g_iload_n (pc := 9) G dX9_read_9 2 rfl ?_
      refine g_bipush (pc := 10) G (v := 9) dX9_read_10 (by decide) ?_
      refine g_icmp_le (pc := 12) G 17 dX9_read_12 (by decide) (fun c3 => ?_) (fun c3 => ?_)
      · rw [if_pos c3] at h
        refine g_iload_n (pc := 17) G dX9_read_17 1 rfl ?_
        refine g_aload_n (pc := 18) G dX9_read_18 0 rfl ?_
        obtain ⟨r4, e5, h⟩ := bd_e h
        obtain ⟨f6, k7⟩ := ck_e e5
        refine g_getR (pc := 19) G ci_8 (uw_8 G.2.2.2.2.1) (k := 1) (by decide) rfl rfl k_this (q400 G.2.2.2.2.1) dX9_read_19 f6 ?_
        obtain ⟨r9, e8, h⟩ := bd_e h
        refine g_callV (pc := 22) (As := []) (rest := [.int p1]) (st2 := [.int r9, .int p1]) G (c_Ro_size l D ca b k7 e8) (mb_Ro_size G.2.2.2.2.1) (q508 G.2.2.2.2.1) (q509 G.2.2.2.2.1) (q507 G.2.2.2.2.1) ci_4 k7 rfl rfl (Nat.le_of_ble_eq_true rfl) ⟨Nat.le_trans (Nat.le_of_ble_eq_true rfl) hR.1, Nat.le_trans (Nat.le_of_ble_eq_true rfl) hR.2⟩ ⟨Nat.zero_le _, Nat.zero_le _⟩ rfl rfl dX9_read_22 ?_
        refine g_iload_n (pc := 25) G dX9_read_25 2 rfl ?_
        refine g_isub (pc := 26) G dX9_read_26 ?_
        refine g_icmp_le (pc := 27) G 33 dX9_read_27 (by decide) (fun c10 => ?_) (fun c10 => ?_)
        · rw [if_pos c10] at h
          refine g_aload_n (pc := 33) G dX9_read_33 0 rfl ?_
          obtain ⟨r11, e12, h⟩ := bd_e h
          obtain ⟨f13, k14⟩ := ck_e e12
          refine g_getR (pc := 34) G ci_8 (uw_8 G.2.2.2.2.1) (k := 5) (by decide) rfl rfl k_this (q404 G.2.2.2.2.1) dX9_read_34 f13 ?_
          refine g_aload_n (pc := 37) G dX9_read_37 0 rfl ?_
          obtain ⟨r15, e16, h⟩ := bd_e h
          obtain ⟨f17, k18⟩ := ck_e e16
          refine g_getR (pc := 38) G ci_8 (uw_8 G.2.2.2.2.1) (k := 6) (by decide) rfl rfl k_this (q405 G.2.2.2.2.1) dX9_read_38 f17 ?_
          refine g_aload_n (pc := 41) G dX9_read_41 0 rfl ?_
          obtain ⟨r19, e20, h⟩ := bd_e h
          obtain ⟨f21, k22⟩ := ck_e e20
          refine g_getR (pc := 42) G ci_8 (uw_8 G.2.2.2.2.1) (k := 1) (by decide) rfl rfl k_this (q400 G.2.2.2.2.1) dX9_read_42 f21 ?_
          refine g_iload_n (pc := 45) G dX9_read_45 1 rfl ?_
          obtain ⟨V24, e23, h⟩ := bd_e h
          refine g_callV (pc := 46) (As := [rv b (some r15), rv b (some r19), .int p1]) (rest := []) (st2 := []) G (c_Re_look l D ca b k14 k18 k22 e23) (mb_Re_look G.2.2.2.2.1) (q603 G.2.2.2.2.1) (q604 G.2.2.2.2.1) (q602 G.2.2.2.2.1) ci_3 k14 rfl rfl (Nat.le_of_ble_eq_true rfl) ⟨Nat.le_trans (Nat.le_of_ble_eq_true rfl) hR.1, Nat.le_trans (Nat.le_of_ble_eq_true rfl) hR.2⟩ ⟨Nat.zero_le _, Nat.zero_le _⟩ rfl rfl dX9_read_46 ?_
          refine g_aload_n (pc := 49) G dX9_read_49 0 rfl ?_
          obtain ⟨r25, e26, h⟩ := bd_e h
          obtain ⟨f27, k28⟩ := ck_e e26
          refine g_getR (pc := 50) G ci_8 (uw_8 G.2.2.2.2.1) (k := 5) (by decide) rfl rfl k_this (q404 G.2.2.2.2.1) dX9_read_50 f27 ?_
          refine g_iload_n (pc := 53) G dX9_read_53 2 rfl ?_
          obtain ⟨r30, e29, h⟩ := bd_e h
          refine g_callV (pc := 54) (As := [.int p2]) (rest := []) (st2 := [.int r30]) G (c_Re_wordsBy l D ca b k28 e29) (mb_Re_wordsBy G.2.2.2.2.1) (q624 G.2.2.2.2.1) (q625 G.2.2.2.2.1) (q623 G.2.2.2.2.1) ci_3 k28 rfl rfl (Nat.le_of_ble_eq_true rfl) ⟨Nat.le_trans (Nat.le_of_ble_eq_true rfl) hR.1, Nat.le_trans (Nat.le_of_ble_eq_true rfl) hR.2⟩ ⟨Nat.zero_le _, Nat.zero_le _⟩ rfl rfl dX9_read_54 ?_
          cases h
          exact g_iret (pc := 57) G dX9_read_57
        · rw [if_neg c10] at h
          refine g_bipush (pc := 30) G (v := (-2)) dX9_read_30 (by decide) ?_
          cases h
          exact g_iret (pc := 32) G dX9_read_32
      · rw [if_neg c3] at h
        refine g_iconst (pc := 15) G (v := (-1)) dX9_read_15 (by decide) ?_
        cases h
        exact g_iret (pc := 16) G dX9_read_16
theorem c_RS_read (l : Launch) (D : va_G) (ca : Nat → ClassId) (b : Nat) {T : Tx} {V : Vx} {this : Nat} {p1 : Int32} {p2 : Int32} {rr : Int32} {Vf : Vx} (k_this : kd T this = 8) (h : RS_read T V this p1 p2 = some (rr, Vf)) : MG l yX9_read cX9_read 3 (Option.some Jvm.ClassFile.FieldType.int) 4 101 0 0 D ca b [rv b (some this), .int p1, .int p2] T V (some (.int rr)) T Vf :=
  MG.ofWG (L := [(0, rv b (some this)), (1, .int p1), (2, .int p2)]) (by decide +kernel) rfl (Nat.le_of_ble_eq_true rfl) (fun _ _ _ _ _ _ _ G _ => w_RS_read G ⟨Nat.le_refl _, Nat.le_refl _⟩ k_this h)
set_option maxHeartbeats 4000000 in
set_option maxRecDepth 100000 in
theorem w_RS_readings {p : Program} {l : Launch} {e : Env} {R : Room} {s : State} {m : MethodId} {args : Array Value} {below : List Frame} {meth : Method} {c : Code} {D : va_G} {ca : Nat → ClassId} {b : Nat} {T : Tx} {V : Vx} (G : GX p s m meth c cX9_readings 1 (Option.some Jvm.ClassFile.FieldType.long) RX9 "readings" D ca b) (hR : 5 ≤ R.frames ∧ 125 ≤ R.locals) {this : Nat} {rr : Int64} {Vf : Vx} (k_this : kd T this = 8) (h : RS_readings T V this = some (rr, Vf)) : WG p l e R s m args below meth c D ca b 1 (QG D ca b (some (.long rr)) T Vf below args s 0 0) 0 0 T V 0 [(0, rv b (some this))] [] := by
  unfold RS_readings at h
  refine g_aload_n (pc := 0) G dX9_readings_0 0 rfl ?_
  obtain ⟨r1, e2, h⟩ := bd_e h
  obtain ⟨f3, k4⟩ := ck_e e2
  refine g_getR (pc := 1) G ci_8 (uw_8 G.2.2.2.2.1) (k := 5) (by decide) rfl rfl k_this (q404 G.2.2.2.2.1) dX9_readings_1 f3 ?_
  refine g_aload_n (pc := 4) G dX9_readings_4 0 rfl ?_
  obtain ⟨r5, e6, h⟩ := bd_e h
  obtain ⟨f7, k8⟩ := ck_e e6
  refine g_getR (pc := 5) G ci_8 (uw_8 G.2.2.2.2.1) (k := 6) (by decide) rfl rfl k_this (q405 G.2.2.2.2.1) dX9_readings_5 f7 ?_
  refine g_aload_n (pc := 8) G dX9_readings_8 0 rfl ?_
  obtain ⟨r9, e10, h⟩ := bd_e h
  obtain ⟨f11, k12⟩ := ck_e e10
  refine g_getR (pc := 9) G ci_8 (uw_8 G.2.2.2.2.1) (k := 1) (by decide) rfl rfl k_this (q400 G.2.2.2.2.1) dX9_readings_9 f11 ?_
  obtain ⟨V14, e13, h⟩ := bd_e h
  refine g_callV (pc := 12) (As := [rv b (some r5), rv b (some r9)]) (rest := []) (st2 := []) G (c_Re_plan l D ca b k4 k8 k12 e13) (mb_Re_plan G.2.2.2.2.1) (q690 G.2.2.2.2.1) (q691 G.2.2.2.2.1) (q689 G.2.2.2.2.1) ci_3 k4 rfl rfl (Nat.le_of_ble_eq_true rfl) ⟨Nat.le_trans (Nat.le_of_ble_eq_true rfl) hR.1, Nat.le_trans (Nat.le_of_ble_eq_true rfl) hR.2⟩ ⟨Nat.zero_le _, Nat.zero_le _⟩ rfl rfl dX9_readings_12 ?_
  refine g_aload_n (pc := 15) G dX9_readings_15 0 rfl ?_
  obtain ⟨r15, e16, h⟩ := bd_e h
  obtain ⟨f17, k18⟩ := ck_e e16
  refine g_getR (pc := 16) G ci_8 (uw_8 G.2.2.2.2.1) (k := 5) (by decide) rfl rfl k_this (q404 G.2.2.2.2.1) dX9_readings_16 f17 ?_
  obtain ⟨r20, e19, h⟩ := bd_e h
  refine g_callV (pc := 19) (As := []) (rest := []) (st2 := [.long r20]) G (c_Re_waysInAll l D ca b k18 e19) (mb_Re_waysInAll G.2.2.2.2.1) (q713 G.2.2.2.2.1) (q714 G.2.2.2.2.1) (q712 G.2.2.2.2.1) ci_3 k18 rfl rfl (Nat.le_of_ble_eq_true rfl) ⟨Nat.le_trans (Nat.le_of_ble_eq_true rfl) hR.1, Nat.le_trans (Nat.le_of_ble_eq_true rfl) hR.2⟩ ⟨Nat.zero_le _, Nat.zero_le _⟩ rfl rfl dX9_readings_19 ?_
  cases h
  exact g_lret (pc := 22) G dX9_readings_22
theorem c_RS_readings (l : Launch) (D : va_G) (ca : Nat → ClassId) (b : Nat) {T : Tx} {V : Vx} {this : Nat} {rr : Int64} {Vf : Vx} (k_this : kd T this = 8) (h : RS_readings T V this = some (rr, Vf)) : MG l yX9_readings cX9_readings 1 (Option.some Jvm.ClassFile.FieldType.long) 5 125 0 0 D ca b [rv b (some this)] T V (some (.long rr)) T Vf :=
  MG.ofWG (L := [(0, rv b (some this))]) (by decide +kernel) rfl (Nat.le_of_ble_eq_true rfl) (fun _ _ _ _ _ _ _ G _ => w_RS_readings G ⟨Nat.le_refl _, Nat.le_refl _⟩ k_this h)
set_option maxHeartbeats 4000000 in
set_option maxRecDepth 100000 in
theorem w_RS_reading {p : Program} {l : Launch} {e : Env} {R : Room} {s : State} {m : MethodId} {args : Array Value} {below : List Frame} {meth : Method} {c : Code} {D : va_G} {ca : Nat → ClassId} {b : Nat} {T : Tx} {V : Vx} (G : GX p s m meth c cX9_reading 3 (Option.some Jvm.ClassFile.FieldType.int) RX9 "reading" D ca b) (hR : 5 ≤ R.frames ∧ 125 ≤ R.locals) {this : Nat} {p1 : Int32} {rr : Int32} {Vf : Vx} (k_this : kd T this = 8) (h : RS_reading T V this p1 = some (rr, Vf)) : WG p l e R s m args below meth c D ca b 3 (QG D ca b (some (.int rr)) T Vf below args s 0 0) 0 0 T V 0 [(0, rv b (some this)), (1, .int p1)] [] := by
  unfold RS_reading at h
  refine g_iload_n (pc := 0) G dX9_reading_0 1 rfl ?_
  refine g_iconst (pc := 1) G (v := (-1)) dX9_reading_1 (by decide) ?_
  refine g_icmp_ge (pc := 2) G 7 dX9_reading_2 (by decide) (fun c1 => ?_) (fun c1 => ?_)
  · rw [if_pos c1] at h
    refine g_aload_n (pc := 7) G dX9_reading_7 0 rfl ?_
    obtain ⟨r2, e3, h⟩ := bd_e h
    obtain ⟨f4, k5⟩ := ck_e e3
    refine g_getR (pc := 8) G ci_8 (uw_8 G.2.2.2.2.1) (k := 5) (by decide) rfl rfl k_this (q404 G.2.2.2.2.1) dX9_reading_8 f4 ?_
    refine g_aload_n (pc := 11) G dX9_reading_11 0 rfl ?_
    obtain ⟨r6, e7, h⟩ := bd_e h
    obtain ⟨f8, k9⟩ := ck_e e7
    refine g_getR (pc := 12) G ci_8 (uw_8 G.2.2.2.2.1) (k := 6) (by decide) rfl rfl k_this (q405 G.2.2.2.2.1) dX9_reading_12 f8 ?_
    refine g_aload_n (pc := 15) G dX9_reading_15 0 rfl ?_
    obtain ⟨r10, e11, h⟩ := bd_e h
    obtain ⟨f12, k13⟩ := ck_e e11
    refine g_getR (pc := 16) G ci_8 (uw_8 G.2.2.2.2.1) (k := 1) (by decide) rfl rfl k_this (q400 G.2.2.2.2.1) dX9_reading_16 f12 ?_
    obtain ⟨V15, e14, h⟩ := bd_e h
    refine g_callV (pc := 19) (As := [rv b (some r6), rv b (some r10)]) (rest := []) (st2 := []) G (c_Re_plan l D ca b k5 k9 k13 e14) (mb_Re_plan G.2.2.2.2.1) (q690 G.2.2.2.2.1) (q691 G.2.2.2.2.1) (q689 G.2.2.2.2.1) ci_3 k5 rfl rfl (Nat.le_of_ble_eq_true rfl) ⟨Nat.le_trans (Nat.le_of_ble_eq_true rfl) hR.1, Nat.le_trans (Nat.le_of_ble_eq_true rfl) hR.2⟩ ⟨Nat.zero_le _, Nat.zero_le _⟩ rfl rfl dX9_reading_19 ?_
    refine g_aload_n (pc := 22) G dX9_reading_22 0 rfl ?_
    obtain ⟨r16, e17, h⟩ := bd_e h
    obtain ⟨f18, k19⟩ := ck_e e17
    refine g_getR (pc := 23) G ci_8 (uw_8 G.2.2.2.2.1) (k := 5) (by decide) rfl rfl k_this (q404 G.2.2.2.2.1) dX9_reading_23 f18 ?_
    obtain ⟨r21, e20, h⟩ := bd_e h
    refine g_callV (pc := 26) (As := []) (rest := []) (st2 := [.int r21]) G (c_Re_fewestWords l D ca b k19 e20) (mb_Re_fewestWords G.2.2.2.2.1) (q721 G.2.2.2.2.1) (q722 G.2.2.2.2.1) (q720 G.2.2.2.2.1) ci_3 k19 rfl rfl (Nat.le_of_ble_eq_true rfl) ⟨Nat.le_trans (Nat.le_of_ble_eq_true rfl) hR.1, Nat.le_trans (Nat.le_of_ble_eq_true rfl) hR.2⟩ ⟨Nat.zero_le _, Nat.zero_le _⟩ rfl rfl dX9_reading_26 ?_
    refine g_istore_n (L' := [(2, .int r21), (0, rv b (some this)), (1, .int p1)]) (pc := 29) G dX9_reading_29 (by decide) rfl ?_
    refine g_iload_n (pc := 30) G dX9_reading_30 0 rfl ?_
    refine g_sipush (pc := 31) G (v := 1000) dX9_reading_31 (by decide) ?_
    refine g_icmp_lt (pc := 34) G 40 dX9_reading_34 (by decide) (fun c22 => ?_) (fun c22 => ?_)
    · rw [if_pos c22] at h
      refine g_iload_n (pc := 40) G dX9_reading_40 2 rfl ?_
      refine g_iconst (pc := 41) G (v := (-1)) dX9_reading_41 (by decide) ?_
      refine g_icmp_ne (pc := 42) G 49 dX9_reading_42 (by decide) (fun c23 => ?_) (fun c23 => ?_)
      · rw [if_neg c23] at h
        refine g_aload_n (pc := 49) G dX9_reading_49 1 rfl ?_
        obtain ⟨r24, e25, h⟩ := bd_e h
        obtain ⟨f26, k27⟩ := ck_e e25
        refine g_getR (pc := 50) G ci_8 (uw_8 G.2.2.2.2.1) (k := 5) (by decide) rfl rfl k_this (q404 G.2.2.2.2.1) dX9_reading_50 f26 ?_
        refine g_iload_n (pc := 53) G dX9_reading_53 2 rfl ?_
        obtain ⟨r29, e28, h⟩ := bd_e h
        refine g_callV (pc := 54) (As := [.int p1]) (rest := []) (st2 := [.int r29]) G (c_Re_plannedWord l D ca b k27 e28) (mb_Re_plannedWord G.2.2.2.2.1) (q725 G.2.2.2.2.1) (q726 G.2.2.2.2.1) (q724 G.2.2.2.2.1) ci_3 k27 rfl rfl (Nat.le_of_ble_eq_true rfl) ⟨Nat.le_trans (Nat.le_of_ble_eq_true rfl) hR.1, Nat.le_trans (Nat.le_of_ble_eq_true rfl) hR.2⟩ ⟨Nat.zero_le _, Nat.zero_le _⟩ rfl rfl dX9_reading_54 ?_
        cases h
        exact g_iret (pc := 57) G dX9_reading_57
      · rw [if_pos c23] at h
        refine g_iload_n (pc := 45) G dX9_reading_45 0 rfl ?_
        refine g_goto (pc := 46) G 57 dX9_reading_46 (by decide) ?_
        cases h
        exact g_iret (pc := 57) G dX9_reading_57
    · rw [if_neg c22] at h
      refine g_bipush (pc := 37) G (v := (-4)) dX9_reading_37 (by decide) ?_
      cases h
      exact g_iret (pc := 39) G dX9_reading_39
  · rw [if_neg c1] at h
    refine g_iconst (pc := 5) G (v := (-1)) dX9_reading_5 (by decide) ?_
    cases h
    exact g_iret (pc := 6) G dX9_reading_6
theorem c_RS_reading (l : Launch) (D : va_G) (ca : Nat → ClassId) (b : Nat) {T : Tx} {V : Vx} {this : Nat} {p1 : Int32} {rr : Int32} {Vf : Vx} (k_this : kd T this = 8) (h : RS_reading T V this p1 = some (rr, Vf)) : MG l yX9_reading cX9_reading 3 (Option.some Jvm.ClassFile.FieldType.int) 5 125 0 0 D ca b [rv b (some this), .int p1] T V (some (.int rr)) T Vf :=
  MG.ofWG (L := [(0, rv b (some this)), (1, .int p1)]) (by decide +kernel) rfl (Nat.le_of_ble_eq_true rfl) (fun _ _ _ _ _ _ _ G _ => w_RS_reading G ⟨Nat.le_refl _, Nat.le_refl _⟩ k_this h)
set_option maxHeartbeats 4000000 in
set_option maxRecDepth 100000 in
theorem w_RS_cut {p : Program} {l : Launch} {e : Env} {R : Room} {s : State} {m : MethodId} {args : Array Value} {below : List Frame} {meth : Method} {c : Code} {D : va_G} {ca : Nat → ClassId} {b : Nat} {T : Tx} {V : Vx} (G : GX p s m meth c cX9_cut 2 (Option.some Jvm.ClassFile.FieldType.int) RX9 "cut" D ca b) (hR : 5 ≤ R.frames ∧ 125 ≤ R.locals) {this : Nat} {p1 : Int32} {rr : Int32} {Vf : Vx} (k_this : kd T this = 8) (h : RS_cut T V this p1 = some (rr, Vf)) : WG p l e R s m args below meth c D ca b 2 (QG D ca b (some (.int rr)) T Vf below args s 0 0) 0 0 T V 0 [(0, rv b (some this)), (1, .int p1)] [] := by
  unfold RS_cut at h
  refine g_iload_n (pc := 0) G dX9_cut_0 1 rfl ?_
  refine g_if_ge (pc := 1) G 6 dX9_cut_1 (by decide) (fun c1 => ?_) (fun c1 => ?_)
  · rw [if_pos c1] at h
    refine g_aload_n (pc := 6) G dX9_cut_6 0 rfl ?_
    obtain ⟨r2, e3, h⟩ := bd_e h
    obtain ⟨f4, k5⟩ := ck_e e3
    refine g_getR (pc := 7) G ci_8 (uw_8 G.2.2.2.2.1) (k := 5) (by decide) rfl rfl k_this (q404 G.2.2.2.2.1) dX9_cut_7 f4 ?_
    refine g_aload_n (pc := 10) G dX9_cut_10 0 rfl ?_
    obtain ⟨r6, e7, h⟩ := bd_e h
    obtain ⟨f8, k9⟩ := ck_e e7
    refine g_getR (pc := 11) G ci_8 (uw_8 G.2.2.2.2.1) (k := 6) (by decide) rfl rfl k_this (q405 G.2.2.2.2.1) dX9_cut_11 f8 ?_
    refine g_aload_n (pc := 14) G dX9_cut_14 0 rfl ?_
    obtain ⟨r10, e11, h⟩ := bd_e h
    obtain ⟨f12, k13⟩ := ck_e e11
    refine g_getR (pc := 15) G ci_8 (uw_8 G.2.2.2.2.1) (k := 1) (by decide) rfl rfl k_this (q400 G.2.2.2.2.1) dX9_cut_15 f12 ?_
    obtain ⟨V15, e14, h⟩ := bd_e h
    refine g_callV (pc := 18) (As := [rv b (some r6), rv b (some r10)]) (rest := []) (st2 := []) G (c_Re_plan l D ca b k5 k9 k13 e14) (mb_Re_plan G.2.2.2.2.1) (q690 G.2.2.2.2.1) (q691 G.2.2.2.2.1) (q689 G.2.2.2.2.1) ci_3 k5 rfl rfl (Nat.le_of_ble_eq_true rfl) ⟨Nat.le_trans (Nat.le_of_ble_eq_true rfl) hR.1, Nat.le_trans (Nat.le_of_ble_eq_true rfl) hR.2⟩ ⟨Nat.zero_le _, Nat.zero_le _⟩ rfl rfl dX9_cut_18 ?_
    refine g_aload_n (pc := 21) G dX9_cut_21 0 rfl ?_
    obtain ⟨r16, e17, h⟩ := bd_e h
    obtain ⟨f18, k19⟩ := ck_e e17
    refine g_getR (pc := 22) G ci_8 (uw_8 G.2.2.2.2.1) (k := 5) (by decide) rfl rfl k_this (q404 G.2.2.2.2.1) dX9_cut_22 f18 ?_
    refine g_iload_n (pc := 25) G dX9_cut_25 1 rfl ?_
    obtain ⟨r21, e20, h⟩ := bd_e h
    refine g_callV (pc := 26) (As := [.int p1]) (rest := []) (st2 := [.int r21]) G (c_Re_plannedCut l D ca b k19 e20) (mb_Re_plannedCut G.2.2.2.2.1) (q737 G.2.2.2.2.1) (q738 G.2.2.2.2.1) (q736 G.2.2.2.2.1) ci_3 k19 rfl rfl (Nat.le_of_ble_eq_true rfl) ⟨Nat.le_trans (Nat.le_of_ble_eq_true rfl) hR.1, Nat.le_trans (Nat.le_of_ble_eq_true rfl) hR.2⟩ ⟨Nat.zero_le _, Nat.zero_le _⟩ rfl rfl dX9_cut_26 ?_
    cases h
    exact g_iret (pc := 29) G dX9_cut_29
  · rw [if_neg c1] at h
    refine g_iconst (pc := 4) G (v := (-1)) dX9_cut_4 (by decide) ?_
    cases h
    exact g_iret (pc := 5) G dX9_cut_5
theorem c_RS_cut (l : Launch) (D : va_G) (ca : Nat → ClassId) (b : Nat) {T : Tx} {V : Vx} {this : Nat} {p1 : Int32} {rr : Int32} {Vf : Vx} (k_this : kd T this = 8) (h : RS_cut T V this p1 = some (rr, Vf)) : MG l yX9_cut cX9_cut 2 (Option.some Jvm.ClassFile.FieldType.int) 5 125 0 0 D ca b [rv b (some this), .int p1] T V (some (.int rr)) T Vf :=
  MG.ofWG (L := [(0, rv b (some this)), (1, .int p1)]) (by decide +kernel) rfl (Nat.le_of_ble_eq_true rfl) (fun _ _ _ _ _ _ _ G _ => w_RS_cut G ⟨Nat.le_refl _, Nat.le_refl _⟩ k_this h)
set_option maxHeartbeats 4000000 in
set_option maxRecDepth 100000 in
theorem w_RS_writtenWords {p : Program} {l : Launch} {e : Env} {R : Room} {s : State} {m : MethodId} {args : Array Value} {below : List Frame} {meth : Method} {c : Code} {D : va_G} {ca : Nat → ClassId} {b : Nat} {T : Tx} {V : Vx} (G : GX p s m meth c cX9_writtenWords 4 (Option.some Jvm.ClassFile.FieldType.int) RX9 "writtenWords" D ca b) (hR : 5 ≤ R.frames ∧ 125 ≤ R.locals) {this : Nat} {rr : Int32} {Vf : Vx} (k_this : kd T this = 8) (h : RS_writtenWords T V this = some (rr, Vf)) : WG p l e R s m args below meth c D ca b 4 (QG D ca b (some (.int rr)) T Vf below args s 0 0) 0 0 T V 0 [(0, rv b (some this))] [] := by
  unfold RS_writtenWords at h
  refine g_aload_n (pc := 0) G dX9_writtenWords_0 0 rfl ?_
  obtain ⟨r1, e2, h⟩ := bd_e h
  obtain ⟨f3, k4⟩ := ck_e e2
  refine g_getR (pc := 1) G ci_8 (uw_8 G.2.2.2.2.1) (k := 4) (by decide) rfl rfl k_this (q403 G.2.2.2.2.1) dX9_writtenWords_1 f3 ?_
  refine g_aload_n (pc := 4) G dX9_writtenWords_4 0 rfl ?_
  obtain ⟨r5, e6, h⟩ := bd_e h
  obtain ⟨f7, k8⟩ := ck_e e6
  refine g_getR (pc := 5) G ci_8 (uw_8 G.2.2.2.2.1) (k := 6) (by decide) rfl rfl k_this (q405 G.2.2.2.2.1) dX9_writtenWords_5 f7 ?_
  obtain ⟨V10, e9, h⟩ := bd_e h
  refine g_callV (pc := 8) (As := [rv b (some r5)]) (rest := []) (st2 := []) G (c_Sc_settle l D ca b k4 k8 e9) (mb_Sc_settle G.2.2.2.2.1) (q552 G.2.2.2.2.1) (q553 G.2.2.2.2.1) (q551 G.2.2.2.2.1) ci_5 k4 rfl rfl (Nat.le_of_ble_eq_true rfl) ⟨Nat.le_trans (Nat.le_of_ble_eq_true rfl) hR.1, Nat.le_trans (Nat.le_of_ble_eq_true rfl) hR.2⟩ ⟨Nat.zero_le _, Nat.zero_le _⟩ rfl rfl dX9_writtenWords_8 ?_
  refine g_iconst (pc := 11) G (v := 0) dX9_writtenWords_11 (by decide) ?_
  refine g_istore_n (L' := [(1, .int 0), (0, rv b (some this))]) (pc := 12) G dX9_writtenWords_12 (by decide) rfl ?_
  refine g_iconst (pc := 13) G (v := 0) dX9_writtenWords_13 (by decide) ?_
  refine g_istore_n (L' := [(2, .int 0), (1, .int 0), (0, rv b (some this))]) (pc := 14) G dX9_writtenWords_14 (by decide) rfl ?_
  have LP15 : ∀ (n11 : Nat) (v12 : Int32) (v13 : Int32), RS_writtenWords_L15 T V10 this n11 v12 v13 = some (rr, Vf) → WG p l e R s m args below meth c D ca b 4 (QG D ca b (some (.int rr)) T Vf below args s 0 0) 0 0 T V10 15 [(0, rv b (some this)), (1, .int v12), (2, .int v13)] [] := by
    intro n11
    induction n11 with
    | zero =>
      intro v12 v13 h
      cases h
    | succ n11 ih14 =>
      intro v12 v13 h
      rw [RS_writtenWords_L15.eq_def] at h
      dsimp only at h
      refine g_iload_n (pc := 15) G dX9_writtenWords_15 2 rfl ?_
      refine g_aload_n (pc := 16) G dX9_writtenWords_16 0 rfl ?_
      obtain ⟨r16, e17, h⟩ := bd_e h
      obtain ⟨f18, k19⟩ := ck_e e17
      refine g_getR (pc := 17) G ci_8 (uw_8 G.2.2.2.2.1) (k := 6) (by decide) rfl rfl k_this (q405 G.2.2.2.2.1) dX9_writtenWords_17 f18 ?_
      refine g_getIN (pc := 20) G ci_2 (uw_2 G.2.2.2.2.1) (k := 3) (by decide) rfl rfl k19 (q308 G.2.2.2.2.1) dX9_writtenWords_20 ?_
      refine g_icmp_ge (pc := 23) G 55 dX9_writtenWords_23 (by decide) (fun c20 => ?_) (fun c20 => ?_)
      · rw [if_pos c20] at h
        refine g_iload_n (pc := 55) G dX9_writtenWords_55 1 rfl ?_
        cases h
        exact g_iret (pc := 56) G dX9_writtenWords_56
      · rw [if_neg c20] at h
        refine g_aload_n (pc := 26) G dX9_writtenWords_26 0 rfl ?_
        obtain ⟨r21, e22, h⟩ := bd_e h
        obtain ⟨f23, k24⟩ := ck_e e22
        refine g_getR (pc := 27) G ci_8 (uw_8 G.2.2.2.2.1) (k := 4) (by decide) rfl rfl k_this (q403 G.2.2.2.2.1) dX9_writtenWords_27 f23 ?_
        refine g_iload_n (pc := 30) G dX9_writtenWords_30 2 rfl ?_
        obtain ⟨r26, e25, h⟩ := bd_e h
        refine g_callV (pc := 31) (As := [.int v13]) (rest := []) (st2 := [rv b r26]) G (c_Sc_rowOf l D ca b k24 e25) (mb_Sc_rowOf G.2.2.2.2.1) (q581 G.2.2.2.2.1) (q582 G.2.2.2.2.1) (q580 G.2.2.2.2.1) ci_5 k24 rfl rfl (Nat.le_of_ble_eq_true rfl) ⟨Nat.le_trans (Nat.le_of_ble_eq_true rfl) hR.1, Nat.le_trans (Nat.le_of_ble_eq_true rfl) hR.2⟩ ⟨Nat.zero_le _, Nat.zero_le _⟩ rfl rfl dX9_writtenWords_31 ?_
        refine g_astore_n (L' := [(3, rv b r26), (0, rv b (some this)), (1, .int v12), (2, .int v13)]) (pc := 34) G dX9_writtenWords_34 (by decide) rfl ?_
        refine g_aload_n (pc := 35) G dX9_writtenWords_35 0 rfl ?_
        cases r26 with
        | none =>
          dsimp only at h
          refine g_ifnullN (pc := 36) G 49 dX9_writtenWords_36 (by decide) ?_
          refine g_iinc (v := v13 + 1) (L' := [(2, .int (v13 + 1)), (3, rv b none), (0, rv b (some this)), (1, .int v12)]) (pc := 49) G dX9_writtenWords_49 3 rfl rfl (by decide) rfl ?_
          refine g_goto (pc := 52) G 15 dX9_writtenWords_52 (by decide) ?_
          exact g_sub [2, 3, 0] rfl (ih14 _ _ h)
        | some r27 =>
          dsimp only at h
          refine g_ifnullS (pc := 36) G dX9_writtenWords_36 ?_
          refine g_aload_n (pc := 39) G dX9_writtenWords_39 0 rfl ?_
          obtain ⟨r30, e29, h⟩ := bd_e h
          have k28 : kd T r27 = 4 := by
            obtain ⟨ee, k0⟩ := ck_e e29
            cases ee
            exact k0
          obtain ⟨r32, e31, h⟩ := bd_e h
          refine g_callV (pc := 40) (As := []) (rest := []) (st2 := [.int r32]) G (c_Ro_size l D ca b k28 e31) (mb_Ro_size G.2.2.2.2.1) (q508 G.2.2.2.2.1) (q509 G.2.2.2.2.1) (q507 G.2.2.2.2.1) ci_4 k28 rfl rfl (Nat.le_of_ble_eq_true rfl) ⟨Nat.le_trans (Nat.le_of_ble_eq_true rfl) hR.1, Nat.le_trans (Nat.le_of_ble_eq_true rfl) hR.2⟩ ⟨Nat.zero_le _, Nat.zero_le _⟩ rfl rfl dX9_writtenWords_40 ?_
          refine g_if_le (pc := 43) G 49 dX9_writtenWords_43 (by decide) (fun c33 => ?_) (fun c33 => ?_)
          · rw [if_pos c33] at h
            refine g_iinc (v := v13 + 1) (L' := [(2, .int (v13 + 1)), (3, rv b (some r27)), (0, rv b (some this)), (1, .int v12)]) (pc := 49) G dX9_writtenWords_49 3 rfl rfl (by decide) rfl ?_
            refine g_goto (pc := 52) G 15 dX9_writtenWords_52 (by decide) ?_
            exact g_sub [2, 3, 0] rfl (ih14 _ _ h)
          · rw [if_neg c33] at h
            refine g_iinc (v := v12 + 1) (L' := [(1, .int (v12 + 1)), (3, rv b (some r27)), (0, rv b (some this)), (2, .int v13)]) (pc := 46) G dX9_writtenWords_46 2 rfl rfl (by decide) rfl ?_
            refine g_iinc (v := v13 + 1) (L' := [(2, .int (v13 + 1)), (1, .int (v12 + 1)), (3, rv b (some r27)), (0, rv b (some this))]) (pc := 49) G dX9_writtenWords_49 3 rfl rfl (by decide) rfl ?_
            refine g_goto (pc := 52) G 15 dX9_writtenWords_52 (by decide) ?_
            exact g_sub [3, 1, 0] rfl (ih14 _ _ h)
  exact g_sub [2, 1, 0] rfl (LP15 _ _ _ h)
theorem c_RS_writtenWords (l : Launch) (D : va_G) (ca : Nat → ClassId) (b : Nat) {T : Tx} {V : Vx} {this : Nat} {rr : Int32} {Vf : Vx} (k_this : kd T this = 8) (h : RS_writtenWords T V this = some (rr, Vf)) : MG l yX9_writtenWords cX9_writtenWords 4 (Option.some Jvm.ClassFile.FieldType.int) 5 125 0 0 D ca b [rv b (some this)] T V (some (.int rr)) T Vf :=
  MG.ofWG (L := [(0, rv b (some this))]) (by decide +kernel) rfl (Nat.le_of_ble_eq_true rfl) (fun _ _ _ _ _ _ _ G _ => w_RS_writtenWords G ⟨Nat.le_refl _, Nat.le_refl _⟩ k_this h)
set_option maxHeartbeats 4000000 in
set_option maxRecDepth 100000 in
theorem w_RS_clearWords {p : Program} {l : Launch} {e : Env} {R : Room} {s : State} {m : MethodId} {args : Array Value} {below : List Frame} {meth : Method} {c : Code} {D : va_G} {ca : Nat → ClassId} {b : Nat} {T : Tx} {V : Vx} (G : GX p s m meth c cX9_clearWords 3 (Option.some Jvm.ClassFile.FieldType.int) RX9 "clearWords" D ca b) (hR : 5 ≤ R.frames ∧ 126 ≤ R.locals) {this : Nat} {rr : Int32} {Vf : Vx} (k_this : kd T this = 8) (h : RS_clearWords T V this = some (rr, Vf)) : WG p l e R s m args below meth c D ca b 3 (QG D ca b (some (.int rr)) T Vf below args s 0 0) 0 0 T V 0 [(0, rv b (some this))] [] := by
  unfold RS_clearWords at h
  refine g_aload_n (pc := 0) G dX9_clearWords_0 0 rfl ?_
  obtain ⟨r1, e2, h⟩ := bd_e h
  obtain ⟨f3, k4⟩ := ck_e e2
  refine g_getR (pc := 1) G ci_8 (uw_8 G.2.2.2.2.1) (k := 4) (by decide) rfl rfl k_this (q403 G.2.2.2.2.1) dX9_clearWords_1 f3 ?_
  refine g_aload_n (pc := 4) G dX9_clearWords_4 0 rfl ?_
  obtain ⟨r5, e6, h⟩ := bd_e h
  obtain ⟨f7, k8⟩ := ck_e e6
  refine g_getR (pc := 5) G ci_8 (uw_8 G.2.2.2.2.1) (k := 6) (by decide) rfl rfl k_this (q405 G.2.2.2.2.1) dX9_clearWords_5 f7 ?_
  obtain ⟨V10, e9, h⟩ := bd_e h
  refine g_callV (pc := 8) (As := [rv b (some r5)]) (rest := []) (st2 := []) G (c_Sc_settle l D ca b k4 k8 e9) (mb_Sc_settle G.2.2.2.2.1) (q552 G.2.2.2.2.1) (q553 G.2.2.2.2.1) (q551 G.2.2.2.2.1) ci_5 k4 rfl rfl (Nat.le_of_ble_eq_true rfl) ⟨Nat.le_trans (Nat.le_of_ble_eq_true rfl) hR.1, Nat.le_trans (Nat.le_of_ble_eq_true rfl) hR.2⟩ ⟨Nat.zero_le _, Nat.zero_le _⟩ rfl rfl dX9_clearWords_8 ?_
  refine g_iconst (pc := 11) G (v := 0) dX9_clearWords_11 (by decide) ?_
  refine g_istore_n (L' := [(1, .int 0), (0, rv b (some this))]) (pc := 12) G dX9_clearWords_12 (by decide) rfl ?_
  refine g_iconst (pc := 13) G (v := 0) dX9_clearWords_13 (by decide) ?_
  refine g_istore_n (L' := [(2, .int 0), (1, .int 0), (0, rv b (some this))]) (pc := 14) G dX9_clearWords_14 (by decide) rfl ?_
  have LP16 : ∀ (n11 : Nat) (V14 : Vx) (v12 : Int32) (v13 : Int32), RS_clearWords_L15 T this n11 V14 v12 v13 = some (rr, Vf) → WG p l e R s m args below meth c D ca b 3 (QG D ca b (some (.int rr)) T Vf below args s 0 0) 0 0 T V14 15 [(0, rv b (some this)), (1, .int v12), (2, .int v13)] [] := by
    intro n11
    induction n11 with
    | zero =>
      intro V14 v12 v13 h
      cases h
    | succ n11 ih15 =>
      intro V14 v12 v13 h
      rw [RS_clearWords_L15] at h
      refine g_iload_n (pc := 15) G dX9_clearWords_15 2 rfl ?_
      refine g_aload_n (pc := 16) G dX9_clearWords_16 0 rfl ?_
      obtain ⟨r17, e18, h⟩ := bd_e h
      obtain ⟨f19, k20⟩ := ck_e e18
      refine g_getR (pc := 17) G ci_8 (uw_8 G.2.2.2.2.1) (k := 6) (by decide) rfl rfl k_this (q405 G.2.2.2.2.1) dX9_clearWords_17 f19 ?_
      refine g_getIN (pc := 20) G ci_2 (uw_2 G.2.2.2.2.1) (k := 3) (by decide) rfl rfl k20 (q308 G.2.2.2.2.1) dX9_clearWords_20 ?_
      refine g_icmp_ge (pc := 23) G 43 dX9_clearWords_23 (by decide) (fun c21 => ?_) (fun c21 => ?_)
      · rw [if_pos c21] at h
        refine g_iload_n (pc := 43) G dX9_clearWords_43 1 rfl ?_
        cases h
        exact g_iret (pc := 44) G dX9_clearWords_44
      · rw [if_neg c21] at h
        refine g_aload_n (pc := 26) G dX9_clearWords_26 0 rfl ?_
        refine g_iload_n (pc := 27) G dX9_clearWords_27 2 rfl ?_
        obtain ⟨r24, V23, e22, h⟩ := bd2_e h
        refine g_callV (pc := 28) (As := [.int v13]) (rest := []) (st2 := [.int r24]) G (c_RS_clearness l D ca b k_this e22) (mb_RS_clearness G.2.2.2.2.1) (q600 G.2.2.2.2.1) (q7 G.2.2.2.2.1) (q598 G.2.2.2.2.1) ci_8 k_this rfl rfl (Nat.le_of_ble_eq_true rfl) ⟨Nat.le_trans (Nat.le_of_ble_eq_true rfl) hR.1, Nat.le_trans (Nat.le_of_ble_eq_true rfl) hR.2⟩ ⟨Nat.zero_le _, Nat.zero_le _⟩ rfl rfl dX9_clearWords_28 ?_
        refine g_if_eq (pc := 31) G 37 dX9_clearWords_31 (by decide) (fun c25 => ?_) (fun c25 => ?_)
        · rw [if_pos c25] at h
          refine g_iinc (v := v13 + 1) (L' := [(2, .int (v13 + 1)), (0, rv b (some this)), (1, .int v12)]) (pc := 37) G dX9_clearWords_37 2 rfl rfl (by decide) rfl ?_
          refine g_goto (pc := 40) G 15 dX9_clearWords_40 (by decide) ?_
          exact g_sub [1, 2, 0] rfl (ih15 _ _ _ h)
        · rw [if_neg c25] at h
          refine g_iinc (v := v12 + 1) (L' := [(1, .int (v12 + 1)), (0, rv b (some this)), (2, .int v13)]) (pc := 34) G dX9_clearWords_34 1 rfl rfl (by decide) rfl ?_
          refine g_iinc (v := v13 + 1) (L' := [(2, .int (v13 + 1)), (1, .int (v12 + 1)), (0, rv b (some this))]) (pc := 37) G dX9_clearWords_37 2 rfl rfl (by decide) rfl ?_
          refine g_goto (pc := 40) G 15 dX9_clearWords_40 (by decide) ?_
          exact g_sub [2, 1, 0] rfl (ih15 _ _ _ h)
  exact g_sub [2, 1, 0] rfl (LP16 _ _ _ _ h)
theorem c_RS_clearWords (l : Launch) (D : va_G) (ca : Nat → ClassId) (b : Nat) {T : Tx} {V : Vx} {this : Nat} {rr : Int32} {Vf : Vx} (k_this : kd T this = 8) (h : RS_clearWords T V this = some (rr, Vf)) : MG l yX9_clearWords cX9_clearWords 3 (Option.some Jvm.ClassFile.FieldType.int) 5 126 0 0 D ca b [rv b (some this)] T V (some (.int rr)) T Vf :=
  MG.ofWG (L := [(0, rv b (some this))]) (by decide +kernel) rfl (Nat.le_of_ble_eq_true rfl) (fun _ _ _ _ _ _ _ G _ => w_RS_clearWords G ⟨Nat.le_refl _, Nat.le_refl _⟩ k_this h)
set_option maxHeartbeats 4000000 in
set_option maxRecDepth 100000 in
theorem w_RS_mixedPairs {p : Program} {l : Launch} {e : Env} {R : Room} {s : State} {m : MethodId} {args : Array Value} {below : List Frame} {meth : Method} {c : Code} {D : va_G} {ca : Nat → ClassId} {b : Nat} {T : Tx} {V : Vx} (G : GX p s m meth c cX9_mixedPairs 3 (Option.some Jvm.ClassFile.FieldType.int) RX9 "mixedPairs" D ca b) (hR : 5 ≤ R.frames ∧ 125 ≤ R.locals) {this : Nat} {rr : Int32} {Vf : Vx} (k_this : kd T this = 8) (h : RS_mixedPairs T V this = some (rr, Vf)) : WG p l e R s m args below meth c D ca b 3 (QG D ca b (some (.int rr)) T Vf below args s 0 0) 0 0 T V 0 [(0, rv b (some this))] [] := by
  unfold RS_mixedPairs at h
  refine g_aload_n (pc := 0) G dX9_mixedPairs_0 0 rfl ?_
  obtain ⟨r1, e2, h⟩ := bd_e h
  obtain ⟨f3, k4⟩ := ck_e e2
  refine g_getR (pc := 1) G ci_8 (uw_8 G.2.2.2.2.1) (k := 4) (by decide) rfl rfl k_this (q403 G.2.2.2.2.1) dX9_mixedPairs_1 f3 ?_
  refine g_aload_n (pc := 4) G dX9_mixedPairs_4 0 rfl ?_
  obtain ⟨r5, e6, h⟩ := bd_e h
  obtain ⟨f7, k8⟩ := ck_e e6
  refine g_getR (pc := 5) G ci_8 (uw_8 G.2.2.2.2.1) (k := 6) (by decide) rfl rfl k_this (q405 G.2.2.2.2.1) dX9_mixedPairs_5 f7 ?_
  obtain ⟨V10, e9, h⟩ := bd_e h
  refine g_callV (pc := 8) (As := [rv b (some r5)]) (rest := []) (st2 := []) G (c_Sc_settle l D ca b k4 k8 e9) (mb_Sc_settle G.2.2.2.2.1) (q552 G.2.2.2.2.1) (q553 G.2.2.2.2.1) (q551 G.2.2.2.2.1) ci_5 k4 rfl rfl (Nat.le_of_ble_eq_true rfl) ⟨Nat.le_trans (Nat.le_of_ble_eq_true rfl) hR.1, Nat.le_trans (Nat.le_of_ble_eq_true rfl) hR.2⟩ ⟨Nat.zero_le _, Nat.zero_le _⟩ rfl rfl dX9_mixedPairs_8 ?_
  refine g_iconst (pc := 11) G (v := 0) dX9_mixedPairs_11 (by decide) ?_
  refine g_istore_n (L' := [(1, .int 0), (0, rv b (some this))]) (pc := 12) G dX9_mixedPairs_12 (by decide) rfl ?_
  refine g_iconst (pc := 13) G (v := 0) dX9_mixedPairs_13 (by decide) ?_
  refine g_istore_n (L' := [(2, .int 0), (1, .int 0), (0, rv b (some this))]) (pc := 14) G dX9_mixedPairs_14 (by decide) rfl ?_
  have LP15 : ∀ (n11 : Nat) (v12 : Int32) (v13 : Int32), RS_mixedPairs_L15 T V10 this n11 v12 v13 = some (rr, Vf) → WG p l e R s m args below meth c D ca b 3 (QG D ca b (some (.int rr)) T Vf below args s 0 0) 0 0 T V10 15 [(0, rv b (some this)), (1, .int v12), (2, .int v13)] [] := by
    intro n11
    induction n11 with
    | zero =>
      intro v12 v13 h
      cases h
    | succ n11 ih14 =>
      intro v12 v13 h
      rw [RS_mixedPairs_L15] at h
      refine g_iload_n (pc := 15) G dX9_mixedPairs_15 2 rfl ?_
      refine g_aload_n (pc := 16) G dX9_mixedPairs_16 0 rfl ?_
      obtain ⟨r16, e17, h⟩ := bd_e h
      obtain ⟨f18, k19⟩ := ck_e e17
      refine g_getR (pc := 17) G ci_8 (uw_8 G.2.2.2.2.1) (k := 6) (by decide) rfl rfl k_this (q405 G.2.2.2.2.1) dX9_mixedPairs_17 f18 ?_
      refine g_getIN (pc := 20) G ci_2 (uw_2 G.2.2.2.2.1) (k := 3) (by decide) rfl rfl k19 (q308 G.2.2.2.2.1) dX9_mixedPairs_20 ?_
      refine g_icmp_ge (pc := 23) G 43 dX9_mixedPairs_23 (by decide) (fun c20 => ?_) (fun c20 => ?_)
      · rw [if_pos c20] at h
        refine g_iload_n (pc := 43) G dX9_mixedPairs_43 1 rfl ?_
        cases h
        exact g_iret (pc := 44) G dX9_mixedPairs_44
      · rw [if_neg c20] at h
        refine g_iload_n (pc := 26) G dX9_mixedPairs_26 1 rfl ?_
        refine g_aload_n (pc := 27) G dX9_mixedPairs_27 0 rfl ?_
        refine g_iload_n (pc := 28) G dX9_mixedPairs_28 2 rfl ?_
        refine g_iload_n (pc := 29) G dX9_mixedPairs_29 2 rfl ?_
        refine g_iconst (pc := 30) G (v := 1) dX9_mixedPairs_30 (by decide) ?_
        refine g_iadd (pc := 31) G dX9_mixedPairs_31 ?_
        obtain ⟨r22, e21, h⟩ := bd_e h
        refine g_callV (pc := 32) (As := [.int v13, .int (v13 + 1)]) (rest := [.int v12]) (st2 := [.int r22, .int v12]) G (c_RS_mixedWith l D ca b k_this e21) (mb_RS_mixedWith G.2.2.2.2.1) (q640 G.2.2.2.2.1) (q9 G.2.2.2.2.1) (q638 G.2.2.2.2.1) ci_8 k_this rfl rfl (Nat.le_of_ble_eq_true rfl) ⟨Nat.le_trans (Nat.le_of_ble_eq_true rfl) hR.1, Nat.le_trans (Nat.le_of_ble_eq_true rfl) hR.2⟩ ⟨Nat.zero_le _, Nat.zero_le _⟩ rfl rfl dX9_mixedPairs_32 ?_
        refine g_iadd (pc := 35) G dX9_mixedPairs_35 ?_
        obtain ⟨x23, e24, h⟩ := lt_e h
        rw [e24]
        refine g_istore_n (L' := [(1, .int x23), (0, rv b (some this)), (2, .int v13)]) (pc := 36) G dX9_mixedPairs_36 (by decide) rfl ?_
        refine g_iinc (v := v13 + 1) (L' := [(2, .int (v13 + 1)), (1, .int x23), (0, rv b (some this))]) (pc := 37) G dX9_mixedPairs_37 2 rfl rfl (by decide) rfl ?_
        refine g_goto (pc := 40) G 15 dX9_mixedPairs_40 (by decide) ?_
        exact g_sub [2, 1, 0] rfl (ih14 _ _ h)
  exact g_sub [2, 1, 0] rfl (LP15 _ _ _ h)
theorem c_RS_mixedPairs (l : Launch) (D : va_G) (ca : Nat → ClassId) (b : Nat) {T : Tx} {V : Vx} {this : Nat} {rr : Int32} {Vf : Vx} (k_this : kd T this = 8) (h : RS_mixedPairs T V this = some (rr, Vf)) : MG l yX9_mixedPairs cX9_mixedPairs 3 (Option.some Jvm.ClassFile.FieldType.int) 5 125 0 0 D ca b [rv b (some this)] T V (some (.int rr)) T Vf :=
  MG.ofWG (L := [(0, rv b (some this))]) (by decide +kernel) rfl (Nat.le_of_ble_eq_true rfl) (fun _ _ _ _ _ _ _ G _ => w_RS_mixedPairs G ⟨Nat.le_refl _, Nat.le_refl _⟩ k_this h)
set_option maxHeartbeats 4000000 in
set_option maxRecDepth 100000 in
theorem w_RS_count {p : Program} {l : Launch} {e : Env} {R : Room} {s : State} {m : MethodId} {args : Array Value} {below : List Frame} {meth : Method} {c : Code} {D : va_G} {ca : Nat → ClassId} {b : Nat} {T : Tx} {V : Vx} (G : GX p s m meth c cX9_count 2 (Option.some Jvm.ClassFile.FieldType.int) RX9 "count" D ca b) (hR : 6 ≤ R.frames ∧ 148 ≤ R.locals) {this : Nat} {p1 : Int32} {rr : Int32} {Vf : Vx} (k_this : kd T this = 8) (h : RS_count T V this p1 = some (rr, Vf)) : WG p l e R s m args below meth c D ca b 2 (QG D ca b (some (.int rr)) T Vf below args s 0 0) 0 0 T V 0 [(0, rv b (some this)), (1, .int p1)] [] := by
  unfold RS_count at h
  refine g_iload_n (pc := 0) G dX9_count_0 1 rfl ?_
  by_cases c1 : p1 = 0
  · rw [if_pos c1] at h
    have K6 : WG p l e R s m args below meth c D ca b 2 (QG D ca b (some (.int rr)) T Vf below args s 0 0) 0 0 T V 56 [(0, rv b (some this)), (1, .int p1)] [] := by
      refine g_aload_n (pc := 56) G dX9_count_56 0 rfl ?_
      obtain ⟨r2, e3, h⟩ := bd_e h
      obtain ⟨f4, k5⟩ := ck_e e3
      refine g_getR (pc := 57) G ci_8 (uw_8 G.2.2.2.2.1) (k := 6) (by decide) rfl rfl k_this (q405 G.2.2.2.2.1) dX9_count_57 f4 ?_
      refine g_getIN (pc := 60) G ci_2 (uw_2 G.2.2.2.2.1) (k := 2) (by decide) rfl rfl k5 (q303 G.2.2.2.2.1) dX9_count_60 ?_
      cases h
      exact g_iret (pc := 63) G dX9_count_63
    exact g_tabI (pc := 1) G 56 dX9_count_1 (by rw [c1] <;> decide) (by rw [c1] <;> decide) (by rw [c1] <;> rfl) (by decide) K6
  · rw [if_neg c1] at h
    by_cases c7 : p1 = 1
    · rw [if_pos c7] at h
      have K12 : WG p l e R s m args below meth c D ca b 2 (QG D ca b (some (.int rr)) T Vf below args s 0 0) 0 0 T V 64 [(0, rv b (some this)), (1, .int p1)] [] := by
        refine g_aload_n (pc := 64) G dX9_count_64 0 rfl ?_
        obtain ⟨r8, e9, h⟩ := bd_e h
        obtain ⟨f10, k11⟩ := ck_e e9
        refine g_getR (pc := 65) G ci_8 (uw_8 G.2.2.2.2.1) (k := 6) (by decide) rfl rfl k_this (q405 G.2.2.2.2.1) dX9_count_65 f10 ?_
        refine g_getIN (pc := 68) G ci_2 (uw_2 G.2.2.2.2.1) (k := 3) (by decide) rfl rfl k11 (q308 G.2.2.2.2.1) dX9_count_68 ?_
        cases h
        exact g_iret (pc := 71) G dX9_count_71
      exact g_tabI (pc := 1) G 64 dX9_count_1 (by rw [c7] <;> decide) (by rw [c7] <;> decide) (by rw [c7] <;> rfl) (by decide) K12
    · rw [if_neg c7] at h
      by_cases c13 : p1 = 2
      · rw [if_pos c13] at h
        have K16 : WG p l e R s m args below meth c D ca b 2 (QG D ca b (some (.int rr)) T Vf below args s 0 0) 0 0 T V 72 [(0, rv b (some this)), (1, .int p1)] [] := by
          refine g_aload_n (pc := 72) G dX9_count_72 0 rfl ?_
          obtain ⟨r15, e14, h⟩ := bd_e h
          refine g_callV (pc := 73) (As := []) (rest := []) (st2 := [.int r15]) G (c_RS_lawNumber l D ca b k_this e14) (mb_RS_lawNumber G.2.2.2.2.1) (q489 G.2.2.2.2.1) (q2 G.2.2.2.2.1) (q487 G.2.2.2.2.1) ci_8 k_this rfl rfl (Nat.le_of_ble_eq_true rfl) ⟨Nat.le_trans (Nat.le_of_ble_eq_true rfl) hR.1, Nat.le_trans (Nat.le_of_ble_eq_true rfl) hR.2⟩ ⟨Nat.zero_le _, Nat.zero_le _⟩ rfl rfl dX9_count_73 ?_
          cases h
          exact g_iret (pc := 76) G dX9_count_76
        exact g_tabI (pc := 1) G 72 dX9_count_1 (by rw [c13] <;> decide) (by rw [c13] <;> decide) (by rw [c13] <;> rfl) (by decide) K16
      · rw [if_neg c13] at h
        by_cases c17 : p1 = 3
        · rw [if_pos c17] at h
          have K24 : WG p l e R s m args below meth c D ca b 2 (QG D ca b (some (.int rr)) T Vf below args s 0 0) 0 0 T V 77 [(0, rv b (some this)), (1, .int p1)] [] := by
            refine g_aload_n (pc := 77) G dX9_count_77 0 rfl ?_
            obtain ⟨r18, e19, h⟩ := bd_e h
            obtain ⟨f20, k21⟩ := ck_e e19
            refine g_getR (pc := 78) G ci_8 (uw_8 G.2.2.2.2.1) (k := 6) (by decide) rfl rfl k_this (q405 G.2.2.2.2.1) dX9_count_78 f20 ?_
            obtain ⟨r23, e22, h⟩ := bd_e h
            refine g_callV (pc := 81) (As := []) (rest := []) (st2 := [.int r23]) G (c_Lx_struckSigns l D ca b k21 e22) (mb_Lx_struckSigns G.2.2.2.2.1) (q479 G.2.2.2.2.1) (q480 G.2.2.2.2.1) (q478 G.2.2.2.2.1) ci_2 k21 rfl rfl (Nat.le_of_ble_eq_true rfl) ⟨Nat.le_trans (Nat.le_of_ble_eq_true rfl) hR.1, Nat.le_trans (Nat.le_of_ble_eq_true rfl) hR.2⟩ ⟨Nat.zero_le _, Nat.zero_le _⟩ rfl rfl dX9_count_81 ?_
            cases h
            exact g_iret (pc := 84) G dX9_count_84
          exact g_tabI (pc := 1) G 77 dX9_count_1 (by rw [c17] <;> decide) (by rw [c17] <;> decide) (by rw [c17] <;> rfl) (by decide) K24
        · rw [if_neg c17] at h
          by_cases c25 : p1 = 4
          · rw [if_pos c25] at h
            have K32 : WG p l e R s m args below meth c D ca b 2 (QG D ca b (some (.int rr)) T Vf below args s 0 0) 0 0 T V 85 [(0, rv b (some this)), (1, .int p1)] [] := by
              refine g_aload_n (pc := 85) G dX9_count_85 0 rfl ?_
              obtain ⟨r26, e27, h⟩ := bd_e h
              obtain ⟨f28, k29⟩ := ck_e e27
              refine g_getR (pc := 86) G ci_8 (uw_8 G.2.2.2.2.1) (k := 1) (by decide) rfl rfl k_this (q400 G.2.2.2.2.1) dX9_count_86 f28 ?_
              obtain ⟨r31, e30, h⟩ := bd_e h
              refine g_callV (pc := 89) (As := []) (rest := []) (st2 := [.int r31]) G (c_Ro_size l D ca b k29 e30) (mb_Ro_size G.2.2.2.2.1) (q508 G.2.2.2.2.1) (q509 G.2.2.2.2.1) (q507 G.2.2.2.2.1) ci_4 k29 rfl rfl (Nat.le_of_ble_eq_true rfl) ⟨Nat.le_trans (Nat.le_of_ble_eq_true rfl) hR.1, Nat.le_trans (Nat.le_of_ble_eq_true rfl) hR.2⟩ ⟨Nat.zero_le _, Nat.zero_le _⟩ rfl rfl dX9_count_89 ?_
              cases h
              exact g_iret (pc := 92) G dX9_count_92
            exact g_tabI (pc := 1) G 85 dX9_count_1 (by rw [c25] <;> decide) (by rw [c25] <;> decide) (by rw [c25] <;> rfl) (by decide) K32
          · rw [if_neg c25] at h
            by_cases c33 : p1 = 5
            · rw [if_pos c33] at h
              have K37 : WG p l e R s m args below meth c D ca b 2 (QG D ca b (some (.int rr)) T Vf below args s 0 0) 0 0 T V 93 [(0, rv b (some this)), (1, .int p1)] [] := by
                refine g_aload_n (pc := 93) G dX9_count_93 0 rfl ?_
                obtain ⟨r36, V35, e34, h⟩ := bd2_e h
                refine g_callV (pc := 94) (As := []) (rest := []) (st2 := [.int r36]) G (c_RS_writtenWords l D ca b k_this e34) (mb_RS_writtenWords G.2.2.2.2.1) (q746 G.2.2.2.2.1) (q12 G.2.2.2.2.1) (q744 G.2.2.2.2.1) ci_8 k_this rfl rfl (Nat.le_of_ble_eq_true rfl) ⟨Nat.le_trans (Nat.le_of_ble_eq_true rfl) hR.1, Nat.le_trans (Nat.le_of_ble_eq_true rfl) hR.2⟩ ⟨Nat.zero_le _, Nat.zero_le _⟩ rfl rfl dX9_count_94 ?_
                cases h
                exact g_iret (pc := 97) G dX9_count_97
              exact g_tabI (pc := 1) G 93 dX9_count_1 (by rw [c33] <;> decide) (by rw [c33] <;> decide) (by rw [c33] <;> rfl) (by decide) K37
            · rw [if_neg c33] at h
              by_cases c38 : p1 = 6
              · rw [if_pos c38] at h
                have K42 : WG p l e R s m args below meth c D ca b 2 (QG D ca b (some (.int rr)) T Vf below args s 0 0) 0 0 T V 98 [(0, rv b (some this)), (1, .int p1)] [] := by
                  refine g_aload_n (pc := 98) G dX9_count_98 0 rfl ?_
                  obtain ⟨r41, V40, e39, h⟩ := bd2_e h
                  refine g_callV (pc := 99) (As := []) (rest := []) (st2 := [.int r41]) G (c_RS_clearWords l D ca b k_this e39) (mb_RS_clearWords G.2.2.2.2.1) (q750 G.2.2.2.2.1) (q13 G.2.2.2.2.1) (q748 G.2.2.2.2.1) ci_8 k_this rfl rfl (Nat.le_of_ble_eq_true rfl) ⟨Nat.le_trans (Nat.le_of_ble_eq_true rfl) hR.1, Nat.le_trans (Nat.le_of_ble_eq_true rfl) hR.2⟩ ⟨Nat.zero_le _, Nat.zero_le _⟩ rfl rfl dX9_count_99 ?_
                  cases h
                  exact g_iret (pc := 102) G dX9_count_102
                exact g_tabI (pc := 1) G 98 dX9_count_1 (by rw [c38] <;> decide) (by rw [c38] <;> decide) (by rw [c38] <;> rfl) (by decide) K42
              · rw [if_neg c38] at h
                by_cases c43 : p1 = 7
                · rw [if_pos c43] at h
                  have K47 : WG p l e R s m args below meth c D ca b 2 (QG D ca b (some (.int rr)) T Vf below args s 0 0) 0 0 T V 103 [(0, rv b (some this)), (1, .int p1)] [] := by
                    refine g_aload_n (pc := 103) G dX9_count_103 0 rfl ?_
                    obtain ⟨r46, V45, e44, h⟩ := bd2_e h
                    refine g_callV (pc := 104) (As := []) (rest := []) (st2 := [.int r46]) G (c_RS_mixedPairs l D ca b k_this e44) (mb_RS_mixedPairs G.2.2.2.2.1) (q754 G.2.2.2.2.1) (q14 G.2.2.2.2.1) (q752 G.2.2.2.2.1) ci_8 k_this rfl rfl (Nat.le_of_ble_eq_true rfl) ⟨Nat.le_trans (Nat.le_of_ble_eq_true rfl) hR.1, Nat.le_trans (Nat.le_of_ble_eq_true rfl) hR.2⟩ ⟨Nat.zero_le _, Nat.zero_le _⟩ rfl rfl dX9_count_104 ?_
                    cases h
                    exact g_iret (pc := 107) G dX9_count_107
                  exact g_tabI (pc := 1) G 103 dX9_count_1 (by rw [c43] <;> decide) (by rw [c43] <;> decide) (by rw [c43] <;> rfl) (by decide) K47
                · rw [if_neg c43] at h
                  by_cases c48 : p1 = 8
                  · rw [if_pos c48] at h
                    have K55 : WG p l e R s m args below meth c D ca b 2 (QG D ca b (some (.int rr)) T Vf below args s 0 0) 0 0 T V 108 [(0, rv b (some this)), (1, .int p1)] [] := by
                      refine g_aload_n (pc := 108) G dX9_count_108 0 rfl ?_
                      obtain ⟨r49, e50, h⟩ := bd_e h
                      obtain ⟨f51, k52⟩ := ck_e e50
                      refine g_getR (pc := 109) G ci_8 (uw_8 G.2.2.2.2.1) (k := 3) (by decide) rfl rfl k_this (q402 G.2.2.2.2.1) dX9_count_109 f51 ?_
                      obtain ⟨r54, e53, h⟩ := bd_e h
                      refine g_callV (pc := 112) (As := []) (rest := []) (st2 := [.int r54]) G (c_Hi_size l D ca b k52 e53) (mb_Hi_size G.2.2.2.2.1) (q528 G.2.2.2.2.1) (q529 G.2.2.2.2.1) (q527 G.2.2.2.2.1) ci_0 k52 rfl rfl (Nat.le_of_ble_eq_true rfl) ⟨Nat.le_trans (Nat.le_of_ble_eq_true rfl) hR.1, Nat.le_trans (Nat.le_of_ble_eq_true rfl) hR.2⟩ ⟨Nat.zero_le _, Nat.zero_le _⟩ rfl rfl dX9_count_112 ?_
                      cases h
                      exact g_iret (pc := 115) G dX9_count_115
                    exact g_tabI (pc := 1) G 108 dX9_count_1 (by rw [c48] <;> decide) (by rw [c48] <;> decide) (by rw [c48] <;> rfl) (by decide) K55
                  · rw [if_neg c48] at h
                    by_cases c56 : p1 = 9
                    · rw [if_pos c56] at h
                      have K63 : WG p l e R s m args below meth c D ca b 2 (QG D ca b (some (.int rr)) T Vf below args s 0 0) 0 0 T V 116 [(0, rv b (some this)), (1, .int p1)] [] := by
                        refine g_aload_n (pc := 116) G dX9_count_116 0 rfl ?_
                        obtain ⟨r57, e58, h⟩ := bd_e h
                        obtain ⟨f59, k60⟩ := ck_e e58
                        refine g_getR (pc := 117) G ci_8 (uw_8 G.2.2.2.2.1) (k := 0) (by decide) rfl rfl k_this (q399 G.2.2.2.2.1) dX9_count_117 f59 ?_
                        obtain ⟨r62, e61, h⟩ := bd_e h
                        refine g_callV (pc := 120) (As := []) (rest := []) (st2 := [.int r62]) G (c_Le_size l D ca b k60 e61) (mb_Le_size G.2.2.2.2.1) (q332 G.2.2.2.2.1) (q333 G.2.2.2.2.1) (q432 G.2.2.2.2.1) ci_1 k60 rfl rfl (Nat.le_of_ble_eq_true rfl) ⟨Nat.le_trans (Nat.le_of_ble_eq_true rfl) hR.1, Nat.le_trans (Nat.le_of_ble_eq_true rfl) hR.2⟩ ⟨Nat.zero_le _, Nat.zero_le _⟩ rfl rfl dX9_count_120 ?_
                        cases h
                        exact g_iret (pc := 123) G dX9_count_123
                      exact g_tabI (pc := 1) G 116 dX9_count_1 (by rw [c56] <;> decide) (by rw [c56] <;> decide) (by rw [c56] <;> rfl) (by decide) K63
                    · rw [if_neg c56] at h
                      have K64 : WG p l e R s m args below meth c D ca b 2 (QG D ca b (some (.int rr)) T Vf below args s 0 0) 0 0 T V 124 [(0, rv b (some this)), (1, .int p1)] [] := by
                        refine g_iconst (pc := 124) G (v := (-1)) dX9_count_124 (by decide) ?_
                        cases h
                        exact g_iret (pc := 125) G dX9_count_125
                      have c1T := lv_neT (a := 0) c1 (by decide)
                      have c7T := lv_neT (a := 1) c7 (by decide)
                      have c13T := lv_neT (a := 2) c13 (by decide)
                      have c17T := lv_neT (a := 3) c17 (by decide)
                      have c25T := lv_neT (a := 4) c25 (by decide)
                      have c33T := lv_neT (a := 5) c33 (by decide)
                      have c38T := lv_neT (a := 6) c38 (by decide)
                      have c43T := lv_neT (a := 7) c43 (by decide)
                      have c48T := lv_neT (a := 8) c48 (by decide)
                      have c56T := lv_neT (a := 9) c56 (by decide)
                      exact g_tabO (pc := 1) G 124 dX9_count_1 (by omega) (by decide) K64
theorem c_RS_count (l : Launch) (D : va_G) (ca : Nat → ClassId) (b : Nat) {T : Tx} {V : Vx} {this : Nat} {p1 : Int32} {rr : Int32} {Vf : Vx} (k_this : kd T this = 8) (h : RS_count T V this p1 = some (rr, Vf)) : MG l yX9_count cX9_count 2 (Option.some Jvm.ClassFile.FieldType.int) 6 148 0 0 D ca b [rv b (some this), .int p1] T V (some (.int rr)) T Vf :=
  MG.ofWG (L := [(0, rv b (some this)), (1, .int p1)]) (by decide +kernel) rfl (Nat.le_of_ble_eq_true rfl) (fun _ _ _ _ _ _ _ G _ => w_RS_count G ⟨Nat.le_refl _, Nat.le_refl _⟩ k_this h)
