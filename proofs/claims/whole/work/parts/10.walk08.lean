set_option maxHeartbeats 4000000 in
set_option maxRecDepth 100000 in
theorem w_Mo_word {p : Program} {l : Launch} {e : Env} {R : Room} {s : State} {m : MethodId} {args : Array Value} {below : List Frame} {meth : Method} {c : Code} {D : va_G} {ca : Nat → ClassId} {b : Nat} {T : Tx} {V : Vx} (G : GX p s m meth c cX10_word 5 (Option.some Jvm.ClassFile.FieldType.int) RX10 "word" D ca b) (hR : 9 ≤ R.frames ∧ 221 ≤ R.locals) {this : Nat} {p1 : Int32} {p2 : Int32} {rr : Int32} {Vf : Vx} (k_this : kd T this = 9) (h : Mo_word T V this p1 p2 = some (rr, Vf)) : WG p l e R s m args below meth c D ca b 5 (QG D ca b (some (.int rr)) T Vf below args s 0 0) 0 0 T V 0 [(0, rv b (some this)), (1, .int p1), (2, .int p2)] [] := by
  unfold Mo_word at h
  refine g_aload_n (pc := 0) G dX10_word_0 0 rfl ?_
  refine g_iload_n (pc := 1) G dX10_word_1 1 rfl ?_
  obtain ⟨r2, e1, h⟩ := bd_e h
  refine g_callV (pc := 2) (As := [.int p1]) (rest := []) (st2 := [.int r2]) G (c_Mo_isWord l D ca b k_this e1) (mb_Mo_isWord G.2.2.2.2.1) (q989 G.2.2.2.2.1) (q42 G.2.2.2.2.1) (q987 G.2.2.2.2.1) ci_9 k_this rfl rfl (Nat.le_of_ble_eq_true rfl) ⟨Nat.le_trans (Nat.le_of_ble_eq_true rfl) hR.1, Nat.le_trans (Nat.le_of_ble_eq_true rfl) hR.2⟩ ⟨Nat.zero_le _, Nat.zero_le _⟩ rfl rfl dX10_word_2 ?_
  refine g_if_eq (pc := 5) G 20 dX10_word_5 (by decide) (fun c3 => ?_) (fun c3 => ?_)
  · rw [if_pos c3] at h
    refine g_iconst (pc := 20) G (v := (-1)) dX10_word_20 (by decide) ?_
    cases h
    exact g_iret (pc := 21) G dX10_word_21
  · rw [if_neg c3] at h
    refine g_iload_n (pc := 8) G dX10_word_8 2 rfl ?_
    refine g_i2l (pc := 9) G dX10_word_9 ?_
    refine g_lconst (pc := 10) G (v := 0) dX10_word_10 (by decide) ?_
    refine g_ldc2 (pc := 11) G (v := 4) (q926 G.2.2.2.2.1) dX10_word_11 ?_
    obtain ⟨r5, e4, h⟩ := bd_e h
    refine g_callS (pc := 14) (As := [.long (Int32.toInt64 p2), .long 0, .long 4]) (rest := []) (st2 := [.int r5]) G (c_Mo_in l D ca b  e4) (mb_Mo_in G.2.2.2.2.1) (q842 G.2.2.2.2.1) (q841 G.2.2.2.2.1) rfl rfl (Nat.le_of_ble_eq_true rfl) ⟨Nat.le_trans (Nat.le_of_ble_eq_true rfl) hR.1, Nat.le_trans (Nat.le_of_ble_eq_true rfl) hR.2⟩ ⟨Nat.zero_le _, Nat.zero_le _⟩ rfl rfl dX10_word_14 ?_
    refine g_if_ne (pc := 17) G 22 dX10_word_17 (by decide) (fun c6 => ?_) (fun c6 => ?_)
    · rw [if_neg c6] at h
      refine g_iconst (pc := 22) G (v := 0) dX10_word_22 (by decide) ?_
      refine g_istore_n (L' := [(3, .int 0), (0, rv b (some this)), (1, .int p1), (2, .int p2)]) (pc := 23) G dX10_word_23 (by decide) rfl ?_
      refine g_iconst (pc := 24) G (v := 0) dX10_word_24 (by decide) ?_
      refine g_istore (L' := [(4, .int 0), (3, .int 0), (0, rv b (some this)), (1, .int p1), (2, .int p2)]) (pc := 25) G dX10_word_25 (by decide) rfl ?_
      have LP11 : ∀ (n7 : Nat) (v8 : Int32) (v9 : Int32) (y12 : Int32), Mo_word_L27 T V this p1 p2 n7 v8 v9 = some (y12) → WG p l e R s m args below meth c D ca b 5 (QG D ca b (some (.int rr)) T Vf below args s 0 0) 0 0 T V 61 [(0, rv b (some this)), (1, .int p1), (2, .int p2), (3, .int y12)] [] → WG p l e R s m args below meth c D ca b 5 (QG D ca b (some (.int rr)) T Vf below args s 0 0) 0 0 T V 27 [(0, rv b (some this)), (1, .int p1), (2, .int p2), (3, .int v8), (4, .int v9)] [] := by
        intro n7
        induction n7 with
        | zero =>
          intro v8 v9 y12 h
          cases h
        | succ n7 ih10 =>
          intro v8 v9 y12 h K13
          rw [Mo_word_L27] at h
          refine g_iload (pc := 27) G dX10_word_27 4 rfl ?_
          refine g_aload_n (pc := 29) G dX10_word_29 0 rfl ?_
          refine g_iload_n (pc := 30) G dX10_word_30 1 rfl ?_
          obtain ⟨r15, e14, h⟩ := bd_e h
          refine g_callV (pc := 31) (As := [.int p1]) (rest := [.int v9]) (st2 := [.int r15, .int v9]) G (c_Mo_long1 l D ca b k_this e14) (mb_Mo_long1 G.2.2.2.2.1) (q961 G.2.2.2.2.1) (q36 G.2.2.2.2.1) (q959 G.2.2.2.2.1) ci_9 k_this rfl rfl (Nat.le_of_ble_eq_true rfl) ⟨Nat.le_trans (Nat.le_of_ble_eq_true rfl) hR.1, Nat.le_trans (Nat.le_of_ble_eq_true rfl) hR.2⟩ ⟨Nat.zero_le _, Nat.zero_le _⟩ rfl rfl dX10_word_31 ?_
          refine g_icmp_ge (pc := 34) G 61 dX10_word_34 (by decide) (fun c16 => ?_) (fun c16 => ?_)
          · rw [if_pos c16] at h
            cases h
            exact g_sub [0, 1, 2, 3] rfl K13
          · rw [if_neg c16] at h
            refine g_iload_n (pc := 37) G dX10_word_37 3 rfl ?_
            refine g_aload_n (pc := 38) G dX10_word_38 0 rfl ?_
            refine g_iload_n (pc := 39) G dX10_word_39 1 rfl ?_
            refine g_iload (pc := 40) G dX10_word_40 4 rfl ?_
            obtain ⟨r18, e17, h⟩ := bd_e h
            refine g_callV (pc := 42) (As := [.int p1, .int v9]) (rest := [.int v8]) (st2 := [.int r18, .int v8]) G (c_Mo_isVowel l D ca b k_this e17) (mb_Mo_isVowel G.2.2.2.2.1) (q965 G.2.2.2.2.1) (q37 G.2.2.2.2.1) (q963 G.2.2.2.2.1) ci_9 k_this rfl rfl (Nat.le_of_ble_eq_true rfl) ⟨Nat.le_trans (Nat.le_of_ble_eq_true rfl) hR.1, Nat.le_trans (Nat.le_of_ble_eq_true rfl) hR.2⟩ ⟨Nat.zero_le _, Nat.zero_le _⟩ rfl rfl dX10_word_42 ?_
            refine g_if_eq (pc := 45) G 52 dX10_word_45 (by decide) (fun c19 => ?_) (fun c19 => ?_)
            · rw [if_pos c19] at h
              refine g_iconst (pc := 52) G (v := 0) dX10_word_52 (by decide) ?_
              refine g_iadd (pc := 53) G dX10_word_53 ?_
              obtain ⟨x20, e21, h⟩ := lt_e h
              rw [e21]
              refine g_istore_n (L' := [(3, .int x20), (0, rv b (some this)), (1, .int p1), (2, .int p2), (4, .int v9)]) (pc := 54) G dX10_word_54 (by decide) rfl ?_
              refine g_iinc (v := v9 + 1) (L' := [(4, .int (v9 + 1)), (3, .int x20), (0, rv b (some this)), (1, .int p1), (2, .int p2)]) (pc := 55) G dX10_word_55 4 rfl rfl (by decide) rfl ?_
              refine g_goto (pc := 58) G 27 dX10_word_58 (by decide) ?_
              exact g_sub [2, 3, 4, 1, 0] rfl (ih10 _ _ _ h K13)
            · rw [if_neg c19] at h
              refine g_iconst (pc := 48) G (v := 1) dX10_word_48 (by decide) ?_
              refine g_goto (pc := 49) G 53 dX10_word_49 (by decide) ?_
              refine g_iadd (pc := 53) G dX10_word_53 ?_
              obtain ⟨x22, e23, h⟩ := lt_e h
              rw [e23]
              refine g_istore_n (L' := [(3, .int x22), (0, rv b (some this)), (1, .int p1), (2, .int p2), (4, .int v9)]) (pc := 54) G dX10_word_54 (by decide) rfl ?_
              refine g_iinc (v := v9 + 1) (L' := [(4, .int (v9 + 1)), (3, .int x22), (0, rv b (some this)), (1, .int p1), (2, .int p2)]) (pc := 55) G dX10_word_55 4 rfl rfl (by decide) rfl ?_
              refine g_goto (pc := 58) G 27 dX10_word_58 (by decide) ?_
              exact g_sub [2, 3, 4, 1, 0] rfl (ih10 _ _ _ h K13)
      obtain ⟨y12, e24, h⟩ := bd_e h
      refine g_sub [2, 3, 4, 1, 0] rfl (LP11 _ _ _ _ e24 ?_)
      refine g_iload_n (pc := 61) G dX10_word_61 2 rfl ?_
      refine g_iconst (pc := 62) G (v := 2) dX10_word_62 (by decide) ?_
      refine g_icmp_ge (pc := 63) G 83 dX10_word_63 (by decide) (fun c25 => ?_) (fun c25 => ?_)
      · rw [if_pos c25] at h
        refine g_iload_n (pc := 83) G dX10_word_83 2 rfl ?_
        refine g_iconst (pc := 84) G (v := 2) dX10_word_84 (by decide) ?_
        refine g_icmp_ne (pc := 85) G 92 dX10_word_85 (by decide) (fun c26 => ?_) (fun c26 => ?_)
        · rw [if_neg c26] at h
          refine g_iload_n (pc := 92) G dX10_word_92 2 rfl ?_
          refine g_iconst (pc := 93) G (v := 3) dX10_word_93 (by decide) ?_
          refine g_icmp_ne (pc := 94) G 105 dX10_word_94 (by decide) (fun c27 => ?_) (fun c27 => ?_)
          · rw [if_neg c27] at h
            refine g_aload_n (pc := 105) G dX10_word_105 0 rfl ?_
            refine g_iload_n (pc := 106) G dX10_word_106 1 rfl ?_
            obtain ⟨r30, V29, e28, h⟩ := bd2_e h
            refine g_callV (pc := 107) (As := [.int p1]) (rest := []) (st2 := [.int r30]) G (c_Mo_mixed l D ca b k_this e28) (mb_Mo_mixed G.2.2.2.2.1) (q1009 G.2.2.2.2.1) (q47 G.2.2.2.2.1) (q1007 G.2.2.2.2.1) ci_9 k_this rfl rfl (Nat.le_of_ble_eq_true rfl) ⟨Nat.le_trans (Nat.le_of_ble_eq_true rfl) hR.1, Nat.le_trans (Nat.le_of_ble_eq_true rfl) hR.2⟩ ⟨Nat.zero_le _, Nat.zero_le _⟩ rfl rfl dX10_word_107 ?_
            cases h
            exact g_iret (pc := 110) G dX10_word_110
          · rw [if_pos c27] at h
            refine g_aload_n (pc := 97) G dX10_word_97 0 rfl ?_
            refine g_iload_n (pc := 98) G dX10_word_98 1 rfl ?_
            obtain ⟨r33, V32, e31, h⟩ := bd2_e h
            refine g_callV (pc := 99) (As := [.int p1]) (rest := []) (st2 := [.int r33]) G (c_Mo_clear l D ca b k_this e31) (mb_Mo_clear G.2.2.2.2.1) (q993 G.2.2.2.2.1) (q43 G.2.2.2.2.1) (q991 G.2.2.2.2.1) ci_9 k_this rfl rfl (Nat.le_of_ble_eq_true rfl) ⟨Nat.le_trans (Nat.le_of_ble_eq_true rfl) hR.1, Nat.le_trans (Nat.le_of_ble_eq_true rfl) hR.2⟩ ⟨Nat.zero_le _, Nat.zero_le _⟩ rfl rfl dX10_word_99 ?_
            refine g_goto (pc := 102) G 110 dX10_word_102 (by decide) ?_
            cases h
            exact g_iret (pc := 110) G dX10_word_110
        · rw [if_pos c26] at h
          refine g_iload_n (pc := 88) G dX10_word_88 3 rfl ?_
          refine g_goto (pc := 89) G 110 dX10_word_89 (by decide) ?_
          cases h
          exact g_iret (pc := 110) G dX10_word_110
      · rw [if_neg c25] at h
        refine g_aload_n (pc := 66) G dX10_word_66 0 rfl ?_
        obtain ⟨r34, e35, h⟩ := bd_e h
        obtain ⟨f36, k37⟩ := ck_e e35
        refine g_getR (pc := 67) G ci_9 (uw_9 G.2.2.2.2.1) (k := 3) (by decide) rfl rfl k_this (q777 G.2.2.2.2.1) dX10_word_67 f36 ?_
        refine g_bipush (pc := 70) G (v := 84) dX10_word_70 (by decide) ?_
        refine g_bipush (pc := 72) G (v := 10) dX10_word_72 (by decide) ?_
        refine g_iload_n (pc := 74) G dX10_word_74 1 rfl ?_
        refine g_imul (pc := 75) G dX10_word_75 ?_
        refine g_iadd (pc := 76) G dX10_word_76 ?_
        refine g_iload_n (pc := 77) G dX10_word_77 2 rfl ?_
        refine g_iadd (pc := 78) G dX10_word_78 ?_
        obtain ⟨b38, h⟩ := gd_e h
        refine g_iald (pc := 79) G k37 b38 dX10_word_79 ?_
        refine g_goto (pc := 80) G 110 dX10_word_80 (by decide) ?_
        cases h
        exact g_iret (pc := 110) G dX10_word_110
    · rw [if_pos c6] at h
      refine g_iconst (pc := 20) G (v := (-1)) dX10_word_20 (by decide) ?_
      cases h
      exact g_iret (pc := 21) G dX10_word_21
theorem c_Mo_word (l : Launch) (D : va_G) (ca : Nat → ClassId) (b : Nat) {T : Tx} {V : Vx} {this : Nat} {p1 : Int32} {p2 : Int32} {rr : Int32} {Vf : Vx} (k_this : kd T this = 9) (h : Mo_word T V this p1 p2 = some (rr, Vf)) : MG l yX10_word cX10_word 5 (Option.some Jvm.ClassFile.FieldType.int) 9 221 0 0 D ca b [rv b (some this), .int p1, .int p2] T V (some (.int rr)) T Vf :=
  MG.ofWG (L := [(0, rv b (some this)), (1, .int p1), (2, .int p2)]) (by decide +kernel) rfl (Nat.le_of_ble_eq_true rfl) (fun _ _ _ _ _ _ _ G _ => w_Mo_word G ⟨Nat.le_refl _, Nat.le_refl _⟩ k_this h)
set_option maxHeartbeats 4000000 in
set_option maxRecDepth 100000 in
theorem w_Mo_least {p : Program} {l : Launch} {e : Env} {R : Room} {s : State} {m : MethodId} {args : Array Value} {below : List Frame} {meth : Method} {c : Code} {D : va_G} {ca : Nat → ClassId} {b : Nat} {T : Tx} {V : Vx} (G : GX p s m meth c cX10_least 4 (Option.some Jvm.ClassFile.FieldType.int) RX10 "least" D ca b) (hR : 7 ≤ R.frames ∧ 172 ≤ R.locals) {this : Nat} {p1 : Int32} {p2 : Int32} {rr : Int32} {Vf : Vx} (k_this : kd T this = 9) (h : Mo_least T V this p1 p2 = some (rr, Vf)) : WG p l e R s m args below meth c D ca b 4 (QG D ca b (some (.int rr)) T Vf below args s 0 0) 0 0 T V 0 [(0, rv b (some this)), (1, .int p1), (2, .int p2)] [] := by
  unfold Mo_least at h
  refine g_aload_n (pc := 0) G dX10_least_0 0 rfl ?_
  refine g_iload_n (pc := 1) G dX10_least_1 1 rfl ?_
  obtain ⟨r2, e1, h⟩ := bd_e h
  refine g_callV (pc := 2) (As := [.int p1]) (rest := []) (st2 := [.int r2]) G (c_Mo_isWord l D ca b k_this e1) (mb_Mo_isWord G.2.2.2.2.1) (q989 G.2.2.2.2.1) (q42 G.2.2.2.2.1) (q987 G.2.2.2.2.1) ci_9 k_this rfl rfl (Nat.le_of_ble_eq_true rfl) ⟨Nat.le_trans (Nat.le_of_ble_eq_true rfl) hR.1, Nat.le_trans (Nat.le_of_ble_eq_true rfl) hR.2⟩ ⟨Nat.zero_le _, Nat.zero_le _⟩ rfl rfl dX10_least_2 ?_
  refine g_if_eq (pc := 5) G 14 dX10_least_5 (by decide) (fun c3 => ?_) (fun c3 => ?_)
  · rw [if_pos c3] at h
    refine g_iconst (pc := 14) G (v := (-1)) dX10_least_14 (by decide) ?_
    cases h
    exact g_iret (pc := 15) G dX10_least_15
  · rw [if_neg c3] at h
    refine g_iload_n (pc := 8) G dX10_least_8 2 rfl ?_
    refine g_bipush (pc := 9) G (v := (-2)) dX10_least_9 (by decide) ?_
    refine g_icmp_ge (pc := 11) G 16 dX10_least_11 (by decide) (fun c4 => ?_) (fun c4 => ?_)
    · rw [if_pos c4] at h
      refine g_aload_n (pc := 16) G dX10_least_16 0 rfl ?_
      refine g_iload_n (pc := 17) G dX10_least_17 1 rfl ?_
      obtain ⟨r7, V6, e5, h⟩ := bd2_e h
      refine g_callV (pc := 18) (As := [.int p1]) (rest := []) (st2 := [.int r7]) G (c_Mo_leasts l D ca b k_this e5) (mb_Mo_leasts G.2.2.2.2.1) (q933 G.2.2.2.2.1) (q29 G.2.2.2.2.1) (q931 G.2.2.2.2.1) ci_9 k_this rfl rfl (Nat.le_of_ble_eq_true rfl) ⟨Nat.le_trans (Nat.le_of_ble_eq_true rfl) hR.1, Nat.le_trans (Nat.le_of_ble_eq_true rfl) hR.2⟩ ⟨Nat.zero_le _, Nat.zero_le _⟩ rfl rfl dX10_least_18 ?_
      refine g_istore_n (L' := [(3, .int r7), (0, rv b (some this)), (1, .int p1), (2, .int p2)]) (pc := 21) G dX10_least_21 (by decide) rfl ?_
      refine g_iload_n (pc := 22) G dX10_least_22 0 rfl ?_
      refine g_bipush (pc := 23) G (v := (-4)) dX10_least_23 (by decide) ?_
      refine g_icmp_eq (pc := 25) G 33 dX10_least_25 (by decide) (fun c8 => ?_) (fun c8 => ?_)
      · rw [if_pos c8] at h
        refine g_bipush (pc := 33) G (v := (-4)) dX10_least_33 (by decide) ?_
        cases h
        exact g_iret (pc := 35) G dX10_least_35
      · rw [if_neg c8] at h
        refine g_iload_n (pc := 28) G dX10_least_28 3 rfl ?_
        refine g_iload_n (pc := 29) G dX10_least_29 0 rfl ?_
        refine g_icmp_lt (pc := 30) G 36 dX10_least_30 (by decide) (fun c9 => ?_) (fun c9 => ?_)
        · rw [if_pos c9] at h
          refine g_iload_n (pc := 36) G dX10_least_36 3 rfl ?_
          refine g_iconst (pc := 37) G (v := (-1)) dX10_least_37 (by decide) ?_
          refine g_icmp_ne (pc := 38) G 45 dX10_least_38 (by decide) (fun c10 => ?_) (fun c10 => ?_)
          · rw [if_neg c10] at h
            refine g_iload_n (pc := 45) G dX10_least_45 3 rfl ?_
            refine g_bipush (pc := 46) G (v := (-2)) dX10_least_46 (by decide) ?_
            refine g_icmp_ne (pc := 48) G 58 dX10_least_48 (by decide) (fun c11 => ?_) (fun c11 => ?_)
            · rw [if_neg c11] at h
              refine g_aload_n (pc := 58) G dX10_least_58 1 rfl ?_
              obtain ⟨r12, e13, h⟩ := bd_e h
              obtain ⟨f14, k15⟩ := ck_e e13
              refine g_getR (pc := 59) G ci_9 (uw_9 G.2.2.2.2.1) (k := 13) (by decide) rfl rfl k_this (q787 G.2.2.2.2.1) dX10_least_59 f14 ?_
              refine g_iload_n (pc := 62) G dX10_least_62 3 rfl ?_
              obtain ⟨b16, h⟩ := gd_e h
              refine g_iald (pc := 63) G k15 b16 dX10_least_63 ?_
              cases h
              exact g_iret (pc := 64) G dX10_least_64
            · rw [if_pos c11] at h
              refine g_aload_n (pc := 51) G dX10_least_51 1 rfl ?_
              refine g_getI (pc := 52) G ci_9 (uw_9 G.2.2.2.2.1) (k := 14) (by decide) rfl rfl k_this (q788 G.2.2.2.2.1) dX10_least_52 ?_
              refine g_goto (pc := 55) G 64 dX10_least_55 (by decide) ?_
              cases h
              exact g_iret (pc := 64) G dX10_least_64
          · rw [if_pos c10] at h
            refine g_iload_n (pc := 41) G dX10_least_41 0 rfl ?_
            refine g_goto (pc := 42) G 64 dX10_least_42 (by decide) ?_
            cases h
            exact g_iret (pc := 64) G dX10_least_64
        · rw [if_neg c9] at h
          refine g_bipush (pc := 33) G (v := (-4)) dX10_least_33 (by decide) ?_
          cases h
          exact g_iret (pc := 35) G dX10_least_35
    · rw [if_neg c4] at h
      refine g_iconst (pc := 14) G (v := (-1)) dX10_least_14 (by decide) ?_
      cases h
      exact g_iret (pc := 15) G dX10_least_15
theorem c_Mo_least (l : Launch) (D : va_G) (ca : Nat → ClassId) (b : Nat) {T : Tx} {V : Vx} {this : Nat} {p1 : Int32} {p2 : Int32} {rr : Int32} {Vf : Vx} (k_this : kd T this = 9) (h : Mo_least T V this p1 p2 = some (rr, Vf)) : MG l yX10_least cX10_least 4 (Option.some Jvm.ClassFile.FieldType.int) 7 172 0 0 D ca b [rv b (some this), .int p1, .int p2] T V (some (.int rr)) T Vf :=
  MG.ofWG (L := [(0, rv b (some this)), (1, .int p1), (2, .int p2)]) (by decide +kernel) rfl (Nat.le_of_ble_eq_true rfl) (fun _ _ _ _ _ _ _ G _ => w_Mo_least G ⟨Nat.le_refl _, Nat.le_refl _⟩ k_this h)
set_option maxHeartbeats 4000000 in
set_option maxRecDepth 100000 in
theorem w_Mo_mark {p : Program} {l : Launch} {e : Env} {R : Room} {s : State} {m : MethodId} {args : Array Value} {below : List Frame} {meth : Method} {c : Code} {D : va_G} {ca : Nat → ClassId} {b : Nat} {T : Tx} {V : Vx} (G : GX p s m meth c cX10_mark 2 (Option.some Jvm.ClassFile.FieldType.int) RX10 "mark" D ca b) (hR : 8 ≤ R.frames ∧ 195 ≤ R.locals) {this : Nat} {p1 : Int32} {rr : Int32} {Vf : Vx} (k_this : kd T this = 9) (h : Mo_mark T V this p1 = some (rr, Vf)) : WG p l e R s m args below meth c D ca b 2 (QG D ca b (some (.int rr)) T Vf below args s 0 0) 0 0 T V 0 [(0, rv b (some this)), (1, .int p1)] [] := by
  unfold Mo_mark at h
  refine g_aload_n (pc := 0) G dX10_mark_0 0 rfl ?_
  refine g_iload_n (pc := 1) G dX10_mark_1 1 rfl ?_
  obtain ⟨r2, e1, h⟩ := bd_e h
  refine g_callV (pc := 2) (As := [.int p1]) (rest := []) (st2 := [.int r2]) G (c_Mo_isWord l D ca b k_this e1) (mb_Mo_isWord G.2.2.2.2.1) (q989 G.2.2.2.2.1) (q42 G.2.2.2.2.1) (q987 G.2.2.2.2.1) ci_9 k_this rfl rfl (Nat.le_of_ble_eq_true rfl) ⟨Nat.le_trans (Nat.le_of_ble_eq_true rfl) hR.1, Nat.le_trans (Nat.le_of_ble_eq_true rfl) hR.2⟩ ⟨Nat.zero_le _, Nat.zero_le _⟩ rfl rfl dX10_mark_2 ?_
  refine g_if_ne (pc := 5) G 10 dX10_mark_5 (by decide) (fun c3 => ?_) (fun c3 => ?_)
  · rw [if_neg c3] at h
    refine g_aload_n (pc := 10) G dX10_mark_10 0 rfl ?_
    refine g_iload_n (pc := 11) G dX10_mark_11 1 rfl ?_
    obtain ⟨r6, V5, e4, h⟩ := bd2_e h
    refine g_callV (pc := 12) (As := [.int p1]) (rest := []) (st2 := [.int r6]) G (c_Mo_clear l D ca b k_this e4) (mb_Mo_clear G.2.2.2.2.1) (q993 G.2.2.2.2.1) (q43 G.2.2.2.2.1) (q991 G.2.2.2.2.1) ci_9 k_this rfl rfl (Nat.le_of_ble_eq_true rfl) ⟨Nat.le_trans (Nat.le_of_ble_eq_true rfl) hR.1, Nat.le_trans (Nat.le_of_ble_eq_true rfl) hR.2⟩ ⟨Nat.zero_le _, Nat.zero_le _⟩ rfl rfl dX10_mark_12 ?_
    refine g_iconst (pc := 15) G (v := 2) dX10_mark_15 (by decide) ?_
    refine g_icmp_ne (pc := 16) G 38 dX10_mark_16 (by decide) (fun c7 => ?_) (fun c7 => ?_)
    · rw [if_neg c7] at h
      refine g_bipush (pc := 38) G (v := (-4)) dX10_mark_38 (by decide) ?_
      cases h
      exact g_iret (pc := 40) G dX10_mark_40
    · rw [if_pos c7] at h
      refine g_aload_n (pc := 19) G dX10_mark_19 0 rfl ?_
      refine g_aload_n (pc := 20) G dX10_mark_20 0 rfl ?_
      obtain ⟨r8, e9, h⟩ := bd_e h
      obtain ⟨f10, k11⟩ := ck_e e9
      refine g_getR (pc := 21) G ci_9 (uw_9 G.2.2.2.2.1) (k := 3) (by decide) rfl rfl k_this (q777 G.2.2.2.2.1) dX10_mark_21 f10 ?_
      refine g_bipush (pc := 24) G (v := 84) dX10_mark_24 (by decide) ?_
      refine g_bipush (pc := 26) G (v := 10) dX10_mark_26 (by decide) ?_
      refine g_iload_n (pc := 28) G dX10_mark_28 1 rfl ?_
      refine g_imul (pc := 29) G dX10_mark_29 ?_
      refine g_iadd (pc := 30) G dX10_mark_30 ?_
      obtain ⟨b12, h⟩ := gd_e h
      refine g_iald (pc := 31) G k11 b12 dX10_mark_31 ?_
      obtain ⟨r14, e13, h⟩ := bd_e h
      refine g_callV (pc := 32) (As := [.int (aI V5 r8 (84 + (10 * p1)).toNatClampNeg)]) (rest := []) (st2 := [.int r14]) G (c_Mo_markOf l D ca b k_this e13) (mb_Mo_markOf G.2.2.2.2.1) (q1005 G.2.2.2.2.1) (q46 G.2.2.2.2.1) (q1003 G.2.2.2.2.1) ci_9 k_this rfl rfl (Nat.le_of_ble_eq_true rfl) ⟨Nat.le_trans (Nat.le_of_ble_eq_true rfl) hR.1, Nat.le_trans (Nat.le_of_ble_eq_true rfl) hR.2⟩ ⟨Nat.zero_le _, Nat.zero_le _⟩ rfl rfl dX10_mark_32 ?_
      refine g_goto (pc := 35) G 40 dX10_mark_35 (by decide) ?_
      cases h
      exact g_iret (pc := 40) G dX10_mark_40
  · rw [if_pos c3] at h
    refine g_iconst (pc := 8) G (v := (-1)) dX10_mark_8 (by decide) ?_
    cases h
    exact g_iret (pc := 9) G dX10_mark_9
theorem c_Mo_mark (l : Launch) (D : va_G) (ca : Nat → ClassId) (b : Nat) {T : Tx} {V : Vx} {this : Nat} {p1 : Int32} {rr : Int32} {Vf : Vx} (k_this : kd T this = 9) (h : Mo_mark T V this p1 = some (rr, Vf)) : MG l yX10_mark cX10_mark 2 (Option.some Jvm.ClassFile.FieldType.int) 8 195 0 0 D ca b [rv b (some this), .int p1] T V (some (.int rr)) T Vf :=
  MG.ofWG (L := [(0, rv b (some this)), (1, .int p1)]) (by decide +kernel) rfl (Nat.le_of_ble_eq_true rfl) (fun _ _ _ _ _ _ _ G _ => w_Mo_mark G ⟨Nat.le_refl _, Nat.le_refl _⟩ k_this h)
set_option maxHeartbeats 4000000 in
set_option maxRecDepth 100000 in
theorem w_Mo_writings {p : Program} {l : Launch} {e : Env} {R : Room} {s : State} {m : MethodId} {args : Array Value} {below : List Frame} {meth : Method} {c : Code} {D : va_G} {ca : Nat → ClassId} {b : Nat} {T : Tx} {V : Vx} (G : GX p s m meth c cX10_writings 10 (Option.some Jvm.ClassFile.FieldType.long) RX10 "writings" D ca b) (hR : 5 ≤ R.frames ∧ 120 ≤ R.locals) {this : Nat} {p1 : Int32} {rr : Int64} {Vf : Vx} (k_this : kd T this = 9) (h : Mo_writings T V this p1 = some (rr, Vf)) : WG p l e R s m args below meth c D ca b 10 (QG D ca b (some (.long rr)) T Vf below args s 0 0) 0 0 T V 0 [(0, rv b (some this)), (1, .int p1)] [] := by
  unfold Mo_writings at h
  refine g_aload_n (pc := 0) G dX10_writings_0 0 rfl ?_
  refine g_iload_n (pc := 1) G dX10_writings_1 1 rfl ?_
  obtain ⟨r2, e1, h⟩ := bd_e h
  refine g_callV (pc := 2) (As := [.int p1]) (rest := []) (st2 := [.int r2]) G (c_Mo_isWord l D ca b k_this e1) (mb_Mo_isWord G.2.2.2.2.1) (q989 G.2.2.2.2.1) (q42 G.2.2.2.2.1) (q987 G.2.2.2.2.1) ci_9 k_this rfl rfl (Nat.le_of_ble_eq_true rfl) ⟨Nat.le_trans (Nat.le_of_ble_eq_true rfl) hR.1, Nat.le_trans (Nat.le_of_ble_eq_true rfl) hR.2⟩ ⟨Nat.zero_le _, Nat.zero_le _⟩ rfl rfl dX10_writings_2 ?_
  refine g_if_ne (pc := 5) G 12 dX10_writings_5 (by decide) (fun c3 => ?_) (fun c3 => ?_)
  · rw [if_neg c3] at h
    refine g_iconst (pc := 12) G (v := 0) dX10_writings_12 (by decide) ?_
    refine g_istore_n (L' := [(2, .int 0), (0, rv b (some this)), (1, .int p1)]) (pc := 13) G dX10_writings_13 (by decide) rfl ?_
    refine g_iconst (pc := 14) G (v := 0) dX10_writings_14 (by decide) ?_
    refine g_istore_n (L' := [(3, .int 0), (2, .int 0), (0, rv b (some this)), (1, .int p1)]) (pc := 15) G dX10_writings_15 (by decide) rfl ?_
    have LP8 : ∀ (n4 : Nat) (v5 : Int32) (v6 : Int32) (y9 : Int32), Mo_writings_L16 T V this p1 n4 v5 v6 = some (y9) → WG p l e R s m args below meth c D ca b 10 (QG D ca b (some (.long rr)) T Vf below args s 0 0) 0 0 T V 89 [(0, rv b (some this)), (1, .int p1), (2, .int y9)] [] → WG p l e R s m args below meth c D ca b 10 (QG D ca b (some (.long rr)) T Vf below args s 0 0) 0 0 T V 16 [(0, rv b (some this)), (1, .int p1), (2, .int v5), (3, .int v6)] [] := by
      intro n4
      induction n4 with
      | zero =>
        intro v5 v6 y9 h
        cases h
      | succ n4 ih7 =>
        intro v5 v6 y9 h K10
        rw [Mo_writings_L16] at h
        refine g_iload_n (pc := 16) G dX10_writings_16 3 rfl ?_
        refine g_aload_n (pc := 17) G dX10_writings_17 0 rfl ?_
        obtain ⟨r11, e12, h⟩ := bd_e h
        obtain ⟨f13, k14⟩ := ck_e e12
        refine g_getR (pc := 18) G ci_9 (uw_9 G.2.2.2.2.1) (k := 3) (by decide) rfl rfl k_this (q777 G.2.2.2.2.1) dX10_writings_18 f13 ?_
        refine g_sipush (pc := 21) G (v := 164) dX10_writings_21 (by decide) ?_
        obtain ⟨b15, h⟩ := gd_e h
        refine g_iald (pc := 24) G k14 b15 dX10_writings_24 ?_
        refine g_icmp_ge (pc := 25) G 89 dX10_writings_25 (by decide) (fun c16 => ?_) (fun c16 => ?_)
        · rw [if_pos c16] at h
          cases h
          exact g_sub [0, 1, 2] rfl K10
        · rw [if_neg c16] at h
          refine g_iload_n (pc := 28) G dX10_writings_28 2 rfl ?_
          refine g_aload_n (pc := 29) G dX10_writings_29 0 rfl ?_
          obtain ⟨r17, e18, h⟩ := bd_e h
          obtain ⟨f19, k20⟩ := ck_e e18
          refine g_getR (pc := 30) G ci_9 (uw_9 G.2.2.2.2.1) (k := 3) (by decide) rfl rfl k_this (q777 G.2.2.2.2.1) dX10_writings_30 f19 ?_
          refine g_bipush (pc := 33) G (v := 7) dX10_writings_33 (by decide) ?_
          refine g_iload_n (pc := 35) G dX10_writings_35 3 rfl ?_
          refine g_imul (pc := 36) G dX10_writings_36 ?_
          obtain ⟨b21, h⟩ := gd_e h
          refine g_iald (pc := 37) G k20 b21 dX10_writings_37 ?_
          refine g_iconst (pc := 38) G (v := 2) dX10_writings_38 (by decide) ?_
          refine g_icmp_ne (pc := 39) G 80 dX10_writings_39 (by decide) (fun c22 => ?_) (fun c22 => ?_)
          · rw [if_neg c22] at h
            refine g_iconst (pc := 80) G (v := 0) dX10_writings_80 (by decide) ?_
            refine g_iadd (pc := 81) G dX10_writings_81 ?_
            obtain ⟨x23, e24, h⟩ := lt_e h
            rw [e24]
            refine g_istore_n (L' := [(2, .int x23), (0, rv b (some this)), (1, .int p1), (3, .int v6)]) (pc := 82) G dX10_writings_82 (by decide) rfl ?_
            refine g_iinc (v := v6 + 1) (L' := [(3, .int (v6 + 1)), (2, .int x23), (0, rv b (some this)), (1, .int p1)]) (pc := 83) G dX10_writings_83 3 rfl rfl (by decide) rfl ?_
            refine g_goto (pc := 86) G 16 dX10_writings_86 (by decide) ?_
            exact g_sub [2, 3, 1, 0] rfl (ih7 _ _ _ h K10)
          · rw [if_pos c22] at h
            refine g_aload_n (pc := 42) G dX10_writings_42 0 rfl ?_
            obtain ⟨r25, e26, h⟩ := bd_e h
            obtain ⟨f27, k28⟩ := ck_e e26
            refine g_getR (pc := 43) G ci_9 (uw_9 G.2.2.2.2.1) (k := 3) (by decide) rfl rfl k_this (q777 G.2.2.2.2.1) dX10_writings_43 f27 ?_
            refine g_bipush (pc := 46) G (v := 7) dX10_writings_46 (by decide) ?_
            refine g_iload_n (pc := 48) G dX10_writings_48 3 rfl ?_
            refine g_imul (pc := 49) G dX10_writings_49 ?_
            refine g_iconst (pc := 50) G (v := 1) dX10_writings_50 (by decide) ?_
            refine g_iadd (pc := 51) G dX10_writings_51 ?_
            obtain ⟨b29, h⟩ := gd_e h
            refine g_iald (pc := 52) G k28 b29 dX10_writings_52 ?_
            refine g_aload_n (pc := 53) G dX10_writings_53 0 rfl ?_
            obtain ⟨r30, e31, h⟩ := bd_e h
            obtain ⟨f32, k33⟩ := ck_e e31
            refine g_getR (pc := 54) G ci_9 (uw_9 G.2.2.2.2.1) (k := 3) (by decide) rfl rfl k_this (q777 G.2.2.2.2.1) dX10_writings_54 f32 ?_
            refine g_bipush (pc := 57) G (v := 84) dX10_writings_57 (by decide) ?_
            refine g_bipush (pc := 59) G (v := 10) dX10_writings_59 (by decide) ?_
            refine g_iload_n (pc := 61) G dX10_writings_61 1 rfl ?_
            refine g_imul (pc := 62) G dX10_writings_62 ?_
            refine g_iadd (pc := 63) G dX10_writings_63 ?_
            obtain ⟨b34, h⟩ := gd_e h
            refine g_iald (pc := 64) G k33 b34 dX10_writings_64 ?_
            refine g_icmp_ne (pc := 65) G 80 dX10_writings_65 (by decide) (fun c35 => ?_) (fun c35 => ?_)
            · rw [if_neg c35] at h
              refine g_iconst (pc := 80) G (v := 0) dX10_writings_80 (by decide) ?_
              refine g_iadd (pc := 81) G dX10_writings_81 ?_
              obtain ⟨x36, e37, h⟩ := lt_e h
              rw [e37]
              refine g_istore_n (L' := [(2, .int x36), (0, rv b (some this)), (1, .int p1), (3, .int v6)]) (pc := 82) G dX10_writings_82 (by decide) rfl ?_
              refine g_iinc (v := v6 + 1) (L' := [(3, .int (v6 + 1)), (2, .int x36), (0, rv b (some this)), (1, .int p1)]) (pc := 83) G dX10_writings_83 3 rfl rfl (by decide) rfl ?_
              refine g_goto (pc := 86) G 16 dX10_writings_86 (by decide) ?_
              exact g_sub [2, 3, 1, 0] rfl (ih7 _ _ _ h K10)
            · rw [if_pos c35] at h
              refine g_aload_n (pc := 68) G dX10_writings_68 0 rfl ?_
              refine g_iload_n (pc := 69) G dX10_writings_69 3 rfl ?_
              obtain ⟨r39, e38, h⟩ := bd_e h
              refine g_callV (pc := 70) (As := [.int v6]) (rest := [.int v5]) (st2 := [.int r39, .int v5]) G (c_Mo_isStruck l D ca b k_this e38) (mb_Mo_isStruck G.2.2.2.2.1) (q901 G.2.2.2.2.1) (q26 G.2.2.2.2.1) (q899 G.2.2.2.2.1) ci_9 k_this rfl rfl (Nat.le_of_ble_eq_true rfl) ⟨Nat.le_trans (Nat.le_of_ble_eq_true rfl) hR.1, Nat.le_trans (Nat.le_of_ble_eq_true rfl) hR.2⟩ ⟨Nat.zero_le _, Nat.zero_le _⟩ rfl rfl dX10_writings_70 ?_
              refine g_if_ne (pc := 73) G 80 dX10_writings_73 (by decide) (fun c40 => ?_) (fun c40 => ?_)
              · rw [if_neg c40] at h
                refine g_iconst (pc := 80) G (v := 0) dX10_writings_80 (by decide) ?_
                refine g_iadd (pc := 81) G dX10_writings_81 ?_
                obtain ⟨x41, e42, h⟩ := lt_e h
                rw [e42]
                refine g_istore_n (L' := [(2, .int x41), (0, rv b (some this)), (1, .int p1), (3, .int v6)]) (pc := 82) G dX10_writings_82 (by decide) rfl ?_
                refine g_iinc (v := v6 + 1) (L' := [(3, .int (v6 + 1)), (2, .int x41), (0, rv b (some this)), (1, .int p1)]) (pc := 83) G dX10_writings_83 3 rfl rfl (by decide) rfl ?_
                refine g_goto (pc := 86) G 16 dX10_writings_86 (by decide) ?_
                exact g_sub [2, 3, 1, 0] rfl (ih7 _ _ _ h K10)
              · rw [if_pos c40] at h
                refine g_iconst (pc := 76) G (v := 1) dX10_writings_76 (by decide) ?_
                refine g_goto (pc := 77) G 81 dX10_writings_77 (by decide) ?_
                refine g_iadd (pc := 81) G dX10_writings_81 ?_
                obtain ⟨x43, e44, h⟩ := lt_e h
                rw [e44]
                refine g_istore_n (L' := [(2, .int x43), (0, rv b (some this)), (1, .int p1), (3, .int v6)]) (pc := 82) G dX10_writings_82 (by decide) rfl ?_
                refine g_iinc (v := v6 + 1) (L' := [(3, .int (v6 + 1)), (2, .int x43), (0, rv b (some this)), (1, .int p1)]) (pc := 83) G dX10_writings_83 3 rfl rfl (by decide) rfl ?_
                refine g_goto (pc := 86) G 16 dX10_writings_86 (by decide) ?_
                exact g_sub [2, 3, 1, 0] rfl (ih7 _ _ _ h K10)
    obtain ⟨y9, e45, h⟩ := bd_e h
    refine g_sub [2, 3, 1, 0] rfl (LP8 _ _ _ _ e45 ?_)
    refine g_aload_n (pc := 89) G dX10_writings_89 0 rfl ?_
    refine g_iload_n (pc := 90) G dX10_writings_90 1 rfl ?_
    obtain ⟨V47, e46, h⟩ := bd_e h
    refine g_callV (pc := 91) (As := [.int p1]) (rest := []) (st2 := []) G (c_Mo_explores l D ca b k_this e46) (mb_Mo_explores G.2.2.2.2.1) (q941 G.2.2.2.2.1) (q31 G.2.2.2.2.1) (q939 G.2.2.2.2.1) ci_9 k_this rfl rfl (Nat.le_of_ble_eq_true rfl) ⟨Nat.le_trans (Nat.le_of_ble_eq_true rfl) hR.1, Nat.le_trans (Nat.le_of_ble_eq_true rfl) hR.2⟩ ⟨Nat.zero_le _, Nat.zero_le _⟩ rfl rfl dX10_writings_91 ?_
    refine g_iconst (pc := 94) G (v := 0) dX10_writings_94 (by decide) ?_
    refine g_istore_n (L' := [(3, .int 0), (0, rv b (some this)), (1, .int p1), (2, .int y9)]) (pc := 95) G dX10_writings_95 (by decide) rfl ?_
    have LP52 : ∀ (n48 : Nat) (V50 : Vx) (v49 : Int32) (V53 : Vx), Mo_writings_L96 T this p1 y9 n48 V50 v49 = some (V53) → WG p l e R s m args below meth c D ca b 10 (QG D ca b (some (.long rr)) T Vf below args s 0 0) 0 0 T V53 124 [(0, rv b (some this)), (1, .int p1), (2, .int y9)] [] → WG p l e R s m args below meth c D ca b 10 (QG D ca b (some (.long rr)) T Vf below args s 0 0) 0 0 T V50 96 [(0, rv b (some this)), (1, .int p1), (2, .int y9), (3, .int v49)] [] := by
      intro n48
      induction n48 with
      | zero =>
        intro V50 v49 V53 h
        cases h
      | succ n48 ih51 =>
        intro V50 v49 V53 h K54
        rw [Mo_writings_L96] at h
        refine g_iload_n (pc := 96) G dX10_writings_96 3 rfl ?_
        refine g_sipush (pc := 97) G (v := 512) dX10_writings_97 (by decide) ?_
        refine g_icmp_ge (pc := 100) G 124 dX10_writings_100 (by decide) (fun c55 => ?_) (fun c55 => ?_)
        · rw [if_pos c55] at h
          cases h
          exact g_sub [0, 1, 2] rfl K54
        · rw [if_neg c55] at h
          refine g_aload_n (pc := 103) G dX10_writings_103 0 rfl ?_
          obtain ⟨r56, e57, h⟩ := bd_e h
          obtain ⟨f58, k59⟩ := ck_e e57
          refine g_getR (pc := 104) G ci_9 (uw_9 G.2.2.2.2.1) (k := 16) (by decide) rfl rfl k_this (q790 G.2.2.2.2.1) dX10_writings_104 f58 ?_
          refine g_iload_n (pc := 107) G dX10_writings_107 3 rfl ?_
          refine g_iload_n (pc := 108) G dX10_writings_108 3 rfl ?_
          refine g_if_ne (pc := 109) G 116 dX10_writings_109 (by decide) (fun c60 => ?_) (fun c60 => ?_)
          · rw [if_neg c60] at h
            refine g_lconst (pc := 116) G (v := 0) dX10_writings_116 (by decide) ?_
            obtain ⟨b61, h⟩ := gd_e h
            obtain ⟨V62, e63, h⟩ := lt_e h
            refine g_last (pc := 117) G k59 b61 e63 dX10_writings_117 ?_
            refine g_iinc (v := v49 + 1) (L' := [(3, .int (v49 + 1)), (0, rv b (some this)), (1, .int p1), (2, .int y9)]) (pc := 118) G dX10_writings_118 3 rfl rfl (by decide) rfl ?_
            refine g_goto (pc := 121) G 96 dX10_writings_121 (by decide) ?_
            exact g_sub [1, 2, 3, 0] rfl (ih51 _ _ _ h K54)
          · rw [if_pos c60] at h
            refine g_lconst (pc := 112) G (v := 1) dX10_writings_112 (by decide) ?_
            refine g_goto (pc := 113) G 117 dX10_writings_113 (by decide) ?_
            obtain ⟨b64, h⟩ := gd_e h
            obtain ⟨V65, e66, h⟩ := lt_e h
            refine g_last (pc := 117) G k59 b64 e66 dX10_writings_117 ?_
            refine g_iinc (v := v49 + 1) (L' := [(3, .int (v49 + 1)), (0, rv b (some this)), (1, .int p1), (2, .int y9)]) (pc := 118) G dX10_writings_118 3 rfl rfl (by decide) rfl ?_
            refine g_goto (pc := 121) G 96 dX10_writings_121 (by decide) ?_
            exact g_sub [1, 2, 3, 0] rfl (ih51 _ _ _ h K54)
    obtain ⟨V53, e67, h⟩ := bd_e h
    refine g_sub [1, 2, 3, 0] rfl (LP52 _ _ _ _ e67 ?_)
    refine g_lconst (pc := 124) G (v := 0) dX10_writings_124 (by decide) ?_
    refine g_lstore_n (L' := [(3, .long 0), (0, rv b (some this)), (1, .int p1), (2, .int y9)]) (pc := 125) G dX10_writings_125 (by decide) rfl ?_
    refine g_iconst (pc := 126) G (v := 1) dX10_writings_126 (by decide) ?_
    refine g_istore (L' := [(5, .int 1), (3, .long 0), (0, rv b (some this)), (1, .int p1), (2, .int y9)]) (pc := 127) G dX10_writings_127 (by decide) rfl ?_
    have LP73 : ∀ (n68 : Nat) (V71 : Vx) (v69 : Int64) (v70 : Int32), Mo_writings_L129 T this p1 y9 n68 V71 v69 v70 = some (rr, Vf) → WG p l e R s m args below meth c D ca b 10 (QG D ca b (some (.long rr)) T Vf below args s 0 0) 0 0 T V71 129 [(0, rv b (some this)), (1, .int p1), (2, .int y9), (3, .long v69), (5, .int v70)] [] := by
      intro n68
      induction n68 with
      | zero =>
        intro V71 v69 v70 h
        cases h
      | succ n68 ih72 =>
        intro V71 v69 v70 h
        rw [Mo_writings_L129] at h
        refine g_iload (pc := 129) G dX10_writings_129 4 rfl ?_
        refine g_bipush (pc := 131) G (v := 10) dX10_writings_131 (by decide) ?_
        refine g_icmp_ge (pc := 133) G 352 dX10_writings_133 (by decide) (fun c74 => ?_) (fun c74 => ?_)
        · rw [if_pos c74] at h
          refine g_lload_n (pc := 352) G dX10_writings_352 3 rfl ?_
          cases h
          exact g_lret (pc := 353) G dX10_writings_353
        · rw [if_neg c74] at h
          refine g_iload (pc := 136) G dX10_writings_136 4 rfl ?_
          refine g_iconst (pc := 138) G (v := 2) dX10_writings_138 (by decide) ?_
          refine g_irem (pc := 139) G dX10_writings_139 (by decide) ?_
          refine g_iconst (pc := 140) G (v := 1) dX10_writings_140 (by decide) ?_
          obtain ⟨x75, hx77, h⟩ := bd_e h
          have K76 : WG p l e R s m args below meth c D ca b 10 (QG D ca b (some (.long rr)) T Vf below args s 0 0) 0 0 T V71 151 [(0, rv b (some this)), (1, .int p1), (2, .int y9), (3, .long v69), (5, .int v70)] [.int x75] := by
            refine g_istore (L' := [(6, .int x75), (0, rv b (some this)), (1, .int p1), (2, .int y9), (3, .long v69), (5, .int v70)]) (pc := 151) G dX10_writings_151 (by decide) rfl ?_
            refine g_sipush (pc := 153) G (v := 512) dX10_writings_153 (by decide) ?_
            refine g_iload (pc := 156) G dX10_writings_156 0 rfl ?_
            refine g_isub (pc := 158) G dX10_writings_158 ?_
            obtain ⟨x80, e81, h⟩ := lt_e h
            rw [e81]
            refine g_istore (L' := [(7, .int x80), (6, .int x75), (0, rv b (some this)), (1, .int p1), (2, .int y9), (3, .long v69), (5, .int v70)]) (pc := 159) G dX10_writings_159 (by decide) rfl ?_
            refine g_iconst (pc := 161) G (v := 0) dX10_writings_161 (by decide) ?_
            refine g_istore (L' := [(8, .int 0), (7, .int x80), (6, .int x75), (0, rv b (some this)), (1, .int p1), (2, .int y9), (3, .long v69), (5, .int v70)]) (pc := 162) G dX10_writings_162 (by decide) rfl ?_
            have LP86 : ∀ (n82 : Nat) (V84 : Vx) (v83 : Int32) (V87 : Vx), Mo_writings_L164 T this p1 y9 v69 v70 x75 x80 n82 V84 v83 = some (V87) → WG p l e R s m args below meth c D ca b 10 (QG D ca b (some (.long rr)) T Vf below args s 0 0) 0 0 T V87 190 [(0, rv b (some this)), (1, .int p1), (2, .int y9), (3, .long v69), (5, .int v70), (6, .int x75), (7, .int x80)] [] → WG p l e R s m args below meth c D ca b 10 (QG D ca b (some (.long rr)) T Vf below args s 0 0) 0 0 T V84 164 [(0, rv b (some this)), (1, .int p1), (2, .int y9), (3, .long v69), (5, .int v70), (6, .int x75), (7, .int x80), (8, .int v83)] [] := by
              intro n82
              induction n82 with
              | zero =>
                intro V84 v83 V87 h
                cases h
              | succ n82 ih85 =>
                intro V84 v83 V87 h K88
                rw [Mo_writings_L164] at h
                refine g_iload (pc := 164) G dX10_writings_164 7 rfl ?_
                refine g_aload_n (pc := 166) G dX10_writings_166 0 rfl ?_
                refine g_getI (pc := 167) G ci_9 (uw_9 G.2.2.2.2.1) (k := 11) (by decide) rfl rfl k_this (q785 G.2.2.2.2.1) dX10_writings_167 ?_
                refine g_icmp_ge (pc := 170) G 190 dX10_writings_170 (by decide) (fun c89 => ?_) (fun c89 => ?_)
                · rw [if_pos c89] at h
                  cases h
                  exact g_sub [0, 1, 2, 3, 4, 5, 6] rfl K88
                · rw [if_neg c89] at h
                  refine g_aload_n (pc := 173) G dX10_writings_173 0 rfl ?_
                  obtain ⟨r90, e91, h⟩ := bd_e h
                  obtain ⟨f92, k93⟩ := ck_e e91
                  refine g_getR (pc := 174) G ci_9 (uw_9 G.2.2.2.2.1) (k := 16) (by decide) rfl rfl k_this (q790 G.2.2.2.2.1) dX10_writings_174 f92 ?_
                  refine g_iload (pc := 177) G dX10_writings_177 6 rfl ?_
                  refine g_iload (pc := 179) G dX10_writings_179 7 rfl ?_
                  refine g_iadd (pc := 181) G dX10_writings_181 ?_
                  refine g_lconst (pc := 182) G (v := 0) dX10_writings_182 (by decide) ?_
                  obtain ⟨b94, h⟩ := gd_e h
                  obtain ⟨V95, e96, h⟩ := lt_e h
                  refine g_last (pc := 183) G k93 b94 e96 dX10_writings_183 ?_
                  refine g_iinc (v := v83 + 1) (L' := [(8, .int (v83 + 1)), (0, rv b (some this)), (1, .int p1), (2, .int y9), (3, .long v69), (5, .int v70), (6, .int x75), (7, .int x80)]) (pc := 184) G dX10_writings_184 7 rfl rfl (by decide) rfl ?_
                  refine g_goto (pc := 187) G 164 dX10_writings_187 (by decide) ?_
                  exact g_sub [1, 2, 3, 4, 5, 6, 7, 0] rfl (ih85 _ _ _ h K88)
            obtain ⟨V87, e97, h⟩ := bd_e h
            refine g_sub [3, 4, 5, 6, 7, 2, 1, 0] rfl (LP86 _ _ _ _ e97 ?_)
            refine g_iconst (pc := 190) G (v := 0) dX10_writings_190 (by decide) ?_
            refine g_istore (L' := [(8, .int 0), (0, rv b (some this)), (1, .int p1), (2, .int y9), (3, .long v69), (5, .int v70), (6, .int x75), (7, .int x80)]) (pc := 191) G dX10_writings_191 (by decide) rfl ?_
            have LP102 : ∀ (n98 : Nat) (V100 : Vx) (v99 : Int32) (V103 : Vx), Mo_writings_L193 T this p1 y9 v69 v70 x75 x80 n98 V100 v99 = some (V103) → WG p l e R s m args below meth c D ca b 10 (QG D ca b (some (.long rr)) T Vf below args s 0 0) 0 0 T V103 280 [(0, rv b (some this)), (1, .int p1), (2, .int y9), (3, .long v69), (5, .int v70), (7, .int x80)] [] → WG p l e R s m args below meth c D ca b 10 (QG D ca b (some (.long rr)) T Vf below args s 0 0) 0 0 T V100 193 [(0, rv b (some this)), (1, .int p1), (2, .int y9), (3, .long v69), (5, .int v70), (6, .int x75), (7, .int x80), (8, .int v99)] [] := by
              intro n98
              induction n98 with
              | zero =>
                intro V100 v99 V103 h
                cases h
              | succ n98 ih101 =>
                intro V100 v99 V103 h K104
                rw [Mo_writings_L193] at h
                refine g_iload (pc := 193) G dX10_writings_193 7 rfl ?_
                refine g_aload_n (pc := 195) G dX10_writings_195 0 rfl ?_
                refine g_getI (pc := 196) G ci_9 (uw_9 G.2.2.2.2.1) (k := 11) (by decide) rfl rfl k_this (q785 G.2.2.2.2.1) dX10_writings_196 ?_
                refine g_icmp_ge (pc := 199) G 280 dX10_writings_199 (by decide) (fun c105 => ?_) (fun c105 => ?_)
                · rw [if_pos c105] at h
                  cases h
                  exact g_sub [0, 1, 2, 3, 4, 6] rfl K104
                · rw [if_neg c105] at h
                  refine g_iconst (pc := 202) G (v := 0) dX10_writings_202 (by decide) ?_
                  refine g_istore (L' := [(9, .int 0), (0, rv b (some this)), (1, .int p1), (2, .int y9), (3, .long v69), (5, .int v70), (6, .int x75), (7, .int x80), (8, .int v99)]) (pc := 203) G dX10_writings_203 (by decide) rfl ?_
                  have LP110 : ∀ (n106 : Nat) (V108 : Vx) (v107 : Int32) (V111 : Vx), Mo_writings_L205 T this p1 y9 v69 v70 x75 x80 v99 n106 V108 v107 = some (V111) → WG p l e R s m args below meth c D ca b 10 (QG D ca b (some (.long rr)) T Vf below args s 0 0) 0 0 T V111 274 [(0, rv b (some this)), (1, .int p1), (2, .int y9), (3, .long v69), (5, .int v70), (6, .int x75), (7, .int x80), (8, .int v99)] [] → WG p l e R s m args below meth c D ca b 10 (QG D ca b (some (.long rr)) T Vf below args s 0 0) 0 0 T V108 205 [(0, rv b (some this)), (1, .int p1), (2, .int y9), (3, .long v69), (5, .int v70), (6, .int x75), (7, .int x80), (8, .int v99), (9, .int v107)] [] := by
                    intro n106
                    induction n106 with
                    | zero =>
                      intro V108 v107 V111 h
                      cases h
                    | succ n106 ih109 =>
                      intro V108 v107 V111 h K112
                      rw [Mo_writings_L205] at h
                      refine g_iload (pc := 205) G dX10_writings_205 8 rfl ?_
                      refine g_aload_n (pc := 207) G dX10_writings_207 0 rfl ?_
                      obtain ⟨r113, e114, h⟩ := bd_e h
                      obtain ⟨f115, k116⟩ := ck_e e114
                      refine g_getR (pc := 208) G ci_9 (uw_9 G.2.2.2.2.1) (k := 3) (by decide) rfl rfl k_this (q777 G.2.2.2.2.1) dX10_writings_208 f115 ?_
                      refine g_sipush (pc := 211) G (v := 164) dX10_writings_211 (by decide) ?_
                      obtain ⟨b117, h⟩ := gd_e h
                      refine g_iald (pc := 214) G k116 b117 dX10_writings_214 ?_
                      refine g_icmp_ge (pc := 215) G 274 dX10_writings_215 (by decide) (fun c118 => ?_) (fun c118 => ?_)
                      · rw [if_pos c118] at h
                        cases h
                        exact g_sub [0, 1, 2, 3, 4, 5, 6, 7] rfl K112
                      · rw [if_neg c118] at h
                        refine g_aload_n (pc := 218) G dX10_writings_218 0 rfl ?_
                        obtain ⟨r119, e120, h⟩ := bd_e h
                        obtain ⟨f121, k122⟩ := ck_e e120
                        refine g_getR (pc := 219) G ci_9 (uw_9 G.2.2.2.2.1) (k := 10) (by decide) rfl rfl k_this (q784 G.2.2.2.2.1) dX10_writings_219 f121 ?_
                        refine g_bipush (pc := 222) G (v := 12) dX10_writings_222 (by decide) ?_
                        refine g_iload (pc := 224) G dX10_writings_224 7 rfl ?_
                        refine g_imul (pc := 226) G dX10_writings_226 ?_
                        refine g_iload (pc := 227) G dX10_writings_227 8 rfl ?_
                        refine g_iadd (pc := 229) G dX10_writings_229 ?_
                        obtain ⟨b123, h⟩ := gd_e h
                        refine g_iald (pc := 230) G k122 b123 dX10_writings_230 ?_
                        refine g_if_lt (pc := 231) G 268 dX10_writings_231 (by decide) (fun c124 => ?_) (fun c124 => ?_)
                        · rw [if_pos c124] at h
                          refine g_iinc (v := v107 + 1) (L' := [(9, .int (v107 + 1)), (0, rv b (some this)), (1, .int p1), (2, .int y9), (3, .long v69), (5, .int v70), (6, .int x75), (7, .int x80), (8, .int v99)]) (pc := 268) G dX10_writings_268 8 rfl rfl (by decide) rfl ?_
                          refine g_goto (pc := 271) G 205 dX10_writings_271 (by decide) ?_
                          exact g_sub [1, 2, 3, 4, 5, 6, 7, 8, 0] rfl (ih109 _ _ _ h K112)
                        · rw [if_neg c124] at h
                          refine g_aload_n (pc := 234) G dX10_writings_234 0 rfl ?_
                          obtain ⟨r125, e126, h⟩ := bd_e h
                          obtain ⟨f127, k128⟩ := ck_e e126
                          refine g_getR (pc := 235) G ci_9 (uw_9 G.2.2.2.2.1) (k := 16) (by decide) rfl rfl k_this (q790 G.2.2.2.2.1) dX10_writings_235 f127 ?_
                          refine g_iload (pc := 238) G dX10_writings_238 6 rfl ?_
                          refine g_aload_n (pc := 240) G dX10_writings_240 0 rfl ?_
                          obtain ⟨r129, e130, h⟩ := bd_e h
                          obtain ⟨f131, k132⟩ := ck_e e130
                          refine g_getR (pc := 241) G ci_9 (uw_9 G.2.2.2.2.1) (k := 10) (by decide) rfl rfl k_this (q784 G.2.2.2.2.1) dX10_writings_241 f131 ?_
                          refine g_bipush (pc := 244) G (v := 12) dX10_writings_244 (by decide) ?_
                          refine g_iload (pc := 246) G dX10_writings_246 7 rfl ?_
                          refine g_imul (pc := 248) G dX10_writings_248 ?_
                          refine g_iload (pc := 249) G dX10_writings_249 8 rfl ?_
                          refine g_iadd (pc := 251) G dX10_writings_251 ?_
                          obtain ⟨b133, h⟩ := gd_e h
                          refine g_iald (pc := 252) G k132 b133 dX10_writings_252 ?_
                          refine g_iadd (pc := 253) G dX10_writings_253 ?_
                          refine g_dup2 (pc := 254) G dX10_writings_254 rfl rfl ?_
                          obtain ⟨b134, h⟩ := gd_e h
                          refine g_lald (pc := 255) G k128 b134 dX10_writings_255 ?_
                          refine g_aload_n (pc := 256) G dX10_writings_256 0 rfl ?_
                          obtain ⟨r135, e136, h⟩ := bd_e h
                          obtain ⟨f137, k138⟩ := ck_e e136
                          refine g_getR (pc := 257) G ci_9 (uw_9 G.2.2.2.2.1) (k := 16) (by decide) rfl rfl k_this (q790 G.2.2.2.2.1) dX10_writings_257 f137 ?_
                          refine g_iload (pc := 260) G dX10_writings_260 5 rfl ?_
                          refine g_iload (pc := 262) G dX10_writings_262 7 rfl ?_
                          refine g_iadd (pc := 264) G dX10_writings_264 ?_
                          obtain ⟨b139, h⟩ := gd_e h
                          refine g_lald (pc := 265) G k138 b139 dX10_writings_265 ?_
                          refine g_ladd (pc := 266) G dX10_writings_266 ?_
                          obtain ⟨b140, h⟩ := gd_e h
                          obtain ⟨V141, e142, h⟩ := lt_e h
                          refine g_last (pc := 267) G k128 b140 e142 dX10_writings_267 ?_
                          refine g_iinc (v := v107 + 1) (L' := [(9, .int (v107 + 1)), (0, rv b (some this)), (1, .int p1), (2, .int y9), (3, .long v69), (5, .int v70), (6, .int x75), (7, .int x80), (8, .int v99)]) (pc := 268) G dX10_writings_268 8 rfl rfl (by decide) rfl ?_
                          refine g_goto (pc := 271) G 205 dX10_writings_271 (by decide) ?_
                          exact g_sub [1, 2, 3, 4, 5, 6, 7, 8, 0] rfl (ih109 _ _ _ h K112)
                  obtain ⟨V111, e143, h⟩ := bd_e h
                  refine g_sub [1, 2, 3, 4, 5, 6, 7, 8, 0] rfl (LP110 _ _ _ _ e143 ?_)
                  refine g_iinc (v := v99 + 1) (L' := [(8, .int (v99 + 1)), (0, rv b (some this)), (1, .int p1), (2, .int y9), (3, .long v69), (5, .int v70), (6, .int x75), (7, .int x80)]) (pc := 274) G dX10_writings_274 7 rfl rfl (by decide) rfl ?_
                  refine g_goto (pc := 277) G 193 dX10_writings_277 (by decide) ?_
                  exact g_sub [1, 2, 3, 4, 5, 6, 7, 0] rfl (ih101 _ _ _ h K104)
            obtain ⟨V103, e144, h⟩ := bd_e h
            refine g_sub [1, 2, 3, 4, 5, 6, 7, 0] rfl (LP102 _ _ _ _ e144 ?_)
            refine g_iconst (pc := 280) G (v := 0) dX10_writings_280 (by decide) ?_
            refine g_istore (L' := [(8, .int 0), (0, rv b (some this)), (1, .int p1), (2, .int y9), (3, .long v69), (5, .int v70), (7, .int x80)]) (pc := 281) G dX10_writings_281 (by decide) rfl ?_
            have LP149 : ∀ (n145 : Nat) (v146 : Int64) (v147 : Int32) (y150 : Int64), Mo_writings_L283 T V103 this p1 y9 v70 x80 n145 v146 v147 = some (y150) → WG p l e R s m args below meth c D ca b 10 (QG D ca b (some (.long rr)) T Vf below args s 0 0) 0 0 T V103 346 [(0, rv b (some this)), (1, .int p1), (2, .int y9), (3, .long y150), (5, .int v70)] [] → WG p l e R s m args below meth c D ca b 10 (QG D ca b (some (.long rr)) T Vf below args s 0 0) 0 0 T V103 283 [(0, rv b (some this)), (1, .int p1), (2, .int y9), (3, .long v146), (5, .int v70), (7, .int x80), (8, .int v147)] [] := by
              intro n145
              induction n145 with
              | zero =>
                intro v146 v147 y150 h
                cases h
              | succ n145 ih148 =>
                intro v146 v147 y150 h K151
                rw [Mo_writings_L283] at h
                refine g_iload (pc := 283) G dX10_writings_283 6 rfl ?_
                refine g_aload_n (pc := 285) G dX10_writings_285 0 rfl ?_
                refine g_getI (pc := 286) G ci_9 (uw_9 G.2.2.2.2.1) (k := 11) (by decide) rfl rfl k_this (q785 G.2.2.2.2.1) dX10_writings_286 ?_
                refine g_icmp_ge (pc := 289) G 346 dX10_writings_289 (by decide) (fun c152 => ?_) (fun c152 => ?_)
                · rw [if_pos c152] at h
                  cases h
                  exact g_sub [0, 1, 2, 3, 4] rfl K151
                · rw [if_neg c152] at h
                  refine g_lload_n (pc := 292) G dX10_writings_292 3 rfl ?_
                  refine g_aload_n (pc := 293) G dX10_writings_293 0 rfl ?_
                  refine g_iload_n (pc := 294) G dX10_writings_294 1 rfl ?_
                  refine g_aload_n (pc := 295) G dX10_writings_295 0 rfl ?_
                  obtain ⟨r153, e154, h⟩ := bd_e h
                  obtain ⟨f155, k156⟩ := ck_e e154
                  refine g_getR (pc := 296) G ci_9 (uw_9 G.2.2.2.2.1) (k := 8) (by decide) rfl rfl k_this (q782 G.2.2.2.2.1) dX10_writings_296 f155 ?_
                  refine g_iload (pc := 299) G dX10_writings_299 6 rfl ?_
                  obtain ⟨b157, h⟩ := gd_e h
                  refine g_iald (pc := 301) G k156 b157 dX10_writings_301 ?_
                  obtain ⟨r159, e158, h⟩ := bd_e h
                  refine g_callV (pc := 302) (As := [.int p1, .int (aI V103 r153 v147.toNatClampNeg)]) (rest := [.long v146]) (st2 := [.int r159, .long v146]) G (c_Mo_isWhole l D ca b k_this e158) (mb_Mo_isWhole G.2.2.2.2.1) (q981 G.2.2.2.2.1) (q41 G.2.2.2.2.1) (q979 G.2.2.2.2.1) ci_9 k_this rfl rfl (Nat.le_of_ble_eq_true rfl) ⟨Nat.le_trans (Nat.le_of_ble_eq_true rfl) hR.1, Nat.le_trans (Nat.le_of_ble_eq_true rfl) hR.2⟩ ⟨Nat.zero_le _, Nat.zero_le _⟩ rfl rfl dX10_writings_302 ?_
                  refine g_if_eq (pc := 305) G 337 dX10_writings_305 (by decide) (fun c160 => ?_) (fun c160 => ?_)
                  · rw [if_pos c160] at h
                    refine g_lconst (pc := 337) G (v := 0) dX10_writings_337 (by decide) ?_
                    refine g_ladd (pc := 338) G dX10_writings_338 ?_
                    obtain ⟨x161, e162, h⟩ := lt_e h
                    rw [e162]
                    refine g_lstore_n (L' := [(3, .long x161), (0, rv b (some this)), (1, .int p1), (2, .int y9), (5, .int v70), (7, .int x80), (8, .int v147)]) (pc := 339) G dX10_writings_339 (by decide) rfl ?_
                    refine g_iinc (v := v147 + 1) (L' := [(8, .int (v147 + 1)), (3, .long x161), (0, rv b (some this)), (1, .int p1), (2, .int y9), (5, .int v70), (7, .int x80)]) (pc := 340) G dX10_writings_340 6 rfl rfl (by decide) rfl ?_
                    refine g_goto (pc := 343) G 283 dX10_writings_343 (by decide) ?_
                    exact g_sub [2, 3, 4, 1, 5, 6, 0] rfl (ih148 _ _ _ h K151)
                  · rw [if_neg c160] at h
                    refine g_aload_n (pc := 308) G dX10_writings_308 0 rfl ?_
                    obtain ⟨r163, e164, h⟩ := bd_e h
                    obtain ⟨f165, k166⟩ := ck_e e164
                    refine g_getR (pc := 309) G ci_9 (uw_9 G.2.2.2.2.1) (k := 16) (by decide) rfl rfl k_this (q790 G.2.2.2.2.1) dX10_writings_309 f165 ?_
                    refine g_iload (pc := 312) G dX10_writings_312 5 rfl ?_
                    refine g_iload (pc := 314) G dX10_writings_314 6 rfl ?_
                    refine g_iadd (pc := 316) G dX10_writings_316 ?_
                    obtain ⟨b167, h⟩ := gd_e h
                    refine g_lald (pc := 317) G k166 b167 dX10_writings_317 ?_
                    refine g_iload (pc := 318) G dX10_writings_318 4 rfl ?_
                    refine g_bipush (pc := 320) G (v := 9) dX10_writings_320 (by decide) ?_
                    obtain ⟨x168, hx170, h⟩ := bd_e h
                    have K169 : WG p l e R s m args below meth c D ca b 10 (QG D ca b (some (.long rr)) T Vf below args s 0 0) 0 0 T V103 332 [(0, rv b (some this)), (1, .int p1), (2, .int y9), (5, .int v70), (7, .int x80), (8, .int v147)] [.int x168, .long (aL V103 r163 (x80 + v147).toNatClampNeg), .long v146] := by
                      refine g_i2l (pc := 332) G dX10_writings_332 ?_
                      refine g_lmul (pc := 333) G dX10_writings_333 ?_
                      refine g_goto (pc := 334) G 338 dX10_writings_334 (by decide) ?_
                      refine g_ladd (pc := 338) G dX10_writings_338 ?_
                      obtain ⟨x173, e174, h⟩ := lt_e h
                      rw [e174]
                      refine g_lstore_n (L' := [(3, .long x173), (0, rv b (some this)), (1, .int p1), (2, .int y9), (5, .int v70), (7, .int x80), (8, .int v147)]) (pc := 339) G dX10_writings_339 (by decide) rfl ?_
                      refine g_iinc (v := v147 + 1) (L' := [(8, .int (v147 + 1)), (3, .long x173), (0, rv b (some this)), (1, .int p1), (2, .int y9), (5, .int v70), (7, .int x80)]) (pc := 340) G dX10_writings_340 6 rfl rfl (by decide) rfl ?_
                      refine g_goto (pc := 343) G 283 dX10_writings_343 (by decide) ?_
                      exact g_sub [2, 3, 4, 1, 5, 6, 0] rfl (ih148 _ _ _ h K151)
                    refine g_icmp_ge (pc := 322) G 331 dX10_writings_322 (by decide) (fun c172 => ?_) (fun c172 => ?_)
                    · rw [if_pos c172] at hx170
                      refine g_iconst (pc := 331) G (v := 1) dX10_writings_331 (by decide) ?_
                      cases hx170
                      exact g_sub [0, 1, 2, 4, 5, 6] rfl K169
                    · rw [if_neg c172] at hx170
                      refine g_iconst (pc := 325) G (v := 1) dX10_writings_325 (by decide) ?_
                      refine g_iload_n (pc := 326) G dX10_writings_326 2 rfl ?_
                      refine g_iadd (pc := 327) G dX10_writings_327 ?_
                      refine g_goto (pc := 328) G 332 dX10_writings_328 (by decide) ?_
                      cases hx170
                      exact g_sub [0, 1, 2, 4, 5, 6] rfl K169
            obtain ⟨y150, e175, h⟩ := bd_e h
            refine g_sub [1, 2, 3, 4, 5, 6, 0] rfl (LP149 _ _ _ _ e175 ?_)
            refine g_iinc (v := v70 + 1) (L' := [(5, .int (v70 + 1)), (0, rv b (some this)), (1, .int p1), (2, .int y9), (3, .long y150)]) (pc := 346) G dX10_writings_346 4 rfl rfl (by decide) rfl ?_
            refine g_goto (pc := 349) G 129 dX10_writings_349 (by decide) ?_
            exact g_sub [1, 2, 3, 4, 0] rfl (ih72 _ _ _ h)
          refine g_icmp_ne (pc := 141) G 148 dX10_writings_141 (by decide) (fun c79 => ?_) (fun c79 => ?_)
          · rw [if_neg c79] at hx77
            refine g_sipush (pc := 148) G (v := 512) dX10_writings_148 (by decide) ?_
            cases hx77
            exact g_sub [0, 1, 2, 3, 4] rfl K76
          · rw [if_pos c79] at hx77
            refine g_iconst (pc := 144) G (v := 0) dX10_writings_144 (by decide) ?_
            refine g_goto (pc := 145) G 151 dX10_writings_145 (by decide) ?_
            cases hx77
            exact g_sub [0, 1, 2, 3, 4] rfl K76
    exact g_sub [2, 3, 4, 1, 0] rfl (LP73 _ _ _ _ h)
  · rw [if_pos c3] at h
    refine g_ldc2 (pc := 8) G (v := (-1)) (q1027 G.2.2.2.2.1) dX10_writings_8 ?_
    cases h
    exact g_lret (pc := 11) G dX10_writings_11
theorem c_Mo_writings (l : Launch) (D : va_G) (ca : Nat → ClassId) (b : Nat) {T : Tx} {V : Vx} {this : Nat} {p1 : Int32} {rr : Int64} {Vf : Vx} (k_this : kd T this = 9) (h : Mo_writings T V this p1 = some (rr, Vf)) : MG l yX10_writings cX10_writings 10 (Option.some Jvm.ClassFile.FieldType.long) 5 120 0 0 D ca b [rv b (some this), .int p1] T V (some (.long rr)) T Vf :=
  MG.ofWG (L := [(0, rv b (some this)), (1, .int p1)]) (by decide +kernel) rfl (Nat.le_of_ble_eq_true rfl) (fun _ _ _ _ _ _ _ G _ => w_Mo_writings G ⟨Nat.le_refl _, Nat.le_refl _⟩ k_this h)
set_option maxHeartbeats 4000000 in
set_option maxRecDepth 100000 in
theorem w_Mo_reckons {p : Program} {l : Launch} {e : Env} {R : Room} {s : State} {m : MethodId} {args : Array Value} {below : List Frame} {meth : Method} {c : Code} {D : va_G} {ca : Nat → ClassId} {b : Nat} {T : Tx} {V : Vx} (G : GX p s m meth c cX10_reckons 5 (Option.none : Option Jvm.ClassFile.FieldType) RX10 "reckons" D ca b) (hR : 6 ≤ R.frames ∧ 150 ≤ R.locals) {this : Nat}  {Vf : Vx} (k_this : kd T this = 9) (h : Mo_reckons T V this = some Vf) : WG p l e R s m args below meth c D ca b 5 (QG D ca b none T Vf below args s 0 0) 0 0 T V 0 [(0, rv b (some this))] [] := by
  unfold Mo_reckons at h
  refine g_aload_n (pc := 0) G dX10_reckons_0 0 rfl ?_
  obtain ⟨r1, e2, h⟩ := bd_e h
  obtain ⟨f3, k4⟩ := ck_e e2
  refine g_getR (pc := 1) G ci_9 (uw_9 G.2.2.2.2.1) (k := 5) (by decide) rfl rfl k_this (q779 G.2.2.2.2.1) dX10_reckons_1 f3 ?_
  refine g_iconst (pc := 4) G (v := 2) dX10_reckons_4 (by decide) ?_
  obtain ⟨b5, h⟩ := gd_e h
  refine g_iald (pc := 5) G k4 b5 dX10_reckons_5 ?_
  obtain ⟨x6, e7, h⟩ := lt_e h
  rw [e7]
  refine g_istore_n (L' := [(1, .int x6), (0, rv b (some this))]) (pc := 6) G dX10_reckons_6 (by decide) rfl ?_
  refine g_aload_n (pc := 7) G dX10_reckons_7 1 rfl ?_
  obtain ⟨r8, e9, h⟩ := bd_e h
  obtain ⟨f10, k11⟩ := ck_e e9
  refine g_getR (pc := 8) G ci_9 (uw_9 G.2.2.2.2.1) (k := 17) (by decide) rfl rfl k_this (q791 G.2.2.2.2.1) dX10_reckons_8 f10 ?_
  refine g_iload_n (pc := 11) G dX10_reckons_11 0 rfl ?_
  refine g_iconst (pc := 12) G (v := 0) dX10_reckons_12 (by decide) ?_
  obtain ⟨b12, h⟩ := gd_e h
  obtain ⟨V13, e14, h⟩ := lt_e h
  refine g_iast (pc := 13) G k11 b12 e14 dX10_reckons_13 ?_
  refine g_aload_n (pc := 14) G dX10_reckons_14 1 rfl ?_
  obtain ⟨r15, e16, h⟩ := bd_e h
  obtain ⟨f17, k18⟩ := ck_e e16
  refine g_getR (pc := 15) G ci_9 (uw_9 G.2.2.2.2.1) (k := 18) (by decide) rfl rfl k_this (q792 G.2.2.2.2.1) dX10_reckons_15 f17 ?_
  refine g_iload_n (pc := 18) G dX10_reckons_18 0 rfl ?_
  refine g_lconst (pc := 19) G (v := 1) dX10_reckons_19 (by decide) ?_
  obtain ⟨b19, h⟩ := gd_e h
  obtain ⟨V20, e21, h⟩ := lt_e h
  refine g_last (pc := 20) G k18 b19 e21 dX10_reckons_20 ?_
  refine g_iload_n (pc := 21) G dX10_reckons_21 0 rfl ?_
  refine g_iconst (pc := 22) G (v := 1) dX10_reckons_22 (by decide) ?_
  refine g_isub (pc := 23) G dX10_reckons_23 ?_
  obtain ⟨x22, e23, h⟩ := lt_e h
  rw [e23]
  refine g_istore_n (L' := [(2, .int x22), (1, .int x6), (0, rv b (some this))]) (pc := 24) G dX10_reckons_24 (by decide) rfl ?_
  have LP28 : ∀ (n24 : Nat) (V26 : Vx) (v25 : Int32), Mo_reckons_L25 T this x6 n24 V26 v25 = some Vf → WG p l e R s m args below meth c D ca b 5 (QG D ca b none T Vf below args s 0 0) 0 0 T V26 25 [(0, rv b (some this)), (1, .int x6), (2, .int v25)] [] := by
    intro n24
    induction n24 with
    | zero =>
      intro V26 v25 h
      cases h
    | succ n24 ih27 =>
      intro V26 v25 h
      rw [Mo_reckons_L25] at h
      refine g_iload_n (pc := 25) G dX10_reckons_25 2 rfl ?_
      refine g_if_lt (pc := 26) G 172 dX10_reckons_26 (by decide) (fun c29 => ?_) (fun c29 => ?_)
      · rw [if_pos c29] at h
        cases h
        exact g_vret (pc := 172) G dX10_reckons_172
      · rw [if_neg c29] at h
        refine g_aload_n (pc := 29) G dX10_reckons_29 0 rfl ?_
        obtain ⟨r30, e31, h⟩ := bd_e h
        obtain ⟨f32, k33⟩ := ck_e e31
        refine g_getR (pc := 30) G ci_9 (uw_9 G.2.2.2.2.1) (k := 17) (by decide) rfl rfl k_this (q791 G.2.2.2.2.1) dX10_reckons_30 f32 ?_
        refine g_iload_n (pc := 33) G dX10_reckons_33 2 rfl ?_
        refine g_sipush (pc := 34) G (v := 1000) dX10_reckons_34 (by decide) ?_
        obtain ⟨b34, h⟩ := gd_e h
        obtain ⟨V35, e36, h⟩ := lt_e h
        refine g_iast (pc := 37) G k33 b34 e36 dX10_reckons_37 ?_
        refine g_aload_n (pc := 38) G dX10_reckons_38 0 rfl ?_
        obtain ⟨r37, e38, h⟩ := bd_e h
        obtain ⟨f39, k40⟩ := ck_e e38
        refine g_getR (pc := 39) G ci_9 (uw_9 G.2.2.2.2.1) (k := 18) (by decide) rfl rfl k_this (q792 G.2.2.2.2.1) dX10_reckons_39 f39 ?_
        refine g_iload_n (pc := 42) G dX10_reckons_42 2 rfl ?_
        refine g_lconst (pc := 43) G (v := 0) dX10_reckons_43 (by decide) ?_
        obtain ⟨b41, h⟩ := gd_e h
        obtain ⟨V42, e43, h⟩ := lt_e h
        refine g_last (pc := 44) G k40 b41 e43 dX10_reckons_44 ?_
        refine g_iconst (pc := 45) G (v := 1) dX10_reckons_45 (by decide) ?_
        refine g_istore_n (L' := [(3, .int 1), (0, rv b (some this)), (1, .int x6), (2, .int v25)]) (pc := 46) G dX10_reckons_46 (by decide) rfl ?_
        have LP48 : ∀ (n44 : Nat) (V46 : Vx) (v45 : Int32) (V49 : Vx), Mo_reckons_L47 T this x6 v25 n44 V46 v45 = some (V49) → WG p l e R s m args below meth c D ca b 5 (QG D ca b none T Vf below args s 0 0) 0 0 T V49 166 [(0, rv b (some this)), (1, .int x6), (2, .int v25)] [] → WG p l e R s m args below meth c D ca b 5 (QG D ca b none T Vf below args s 0 0) 0 0 T V46 47 [(0, rv b (some this)), (1, .int x6), (2, .int v25), (3, .int v45)] [] := by
          intro n44
          induction n44 with
          | zero =>
            intro V46 v45 V49 h
            cases h
          | succ n44 ih47 =>
            intro V46 v45 V49 h K50
            rw [Mo_reckons_L47] at h
            refine g_iload_n (pc := 47) G dX10_reckons_47 3 rfl ?_
            refine g_bipush (pc := 48) G (v := 10) dX10_reckons_48 (by decide) ?_
            refine g_icmp_ge (pc := 50) G 166 dX10_reckons_50 (by decide) (fun c51 => ?_) (fun c51 => ?_)
            · rw [if_pos c51] at h
              cases h
              exact g_sub [0, 1, 2] rfl K50
            · rw [if_neg c51] at h
              refine g_iload_n (pc := 53) G dX10_reckons_53 2 rfl ?_
              refine g_iload_n (pc := 54) G dX10_reckons_54 3 rfl ?_
              refine g_iadd (pc := 55) G dX10_reckons_55 ?_
              refine g_iload_n (pc := 56) G dX10_reckons_56 1 rfl ?_
              refine g_icmp_gt (pc := 57) G 166 dX10_reckons_57 (by decide) (fun c52 => ?_) (fun c52 => ?_)
              · rw [if_pos c52] at h
                cases h
                exact g_sub [0, 1, 2] rfl K50
              · rw [if_neg c52] at h
                refine g_aload_n (pc := 60) G dX10_reckons_60 0 rfl ?_
                refine g_aload_n (pc := 61) G dX10_reckons_61 0 rfl ?_
                obtain ⟨r53, e54, h⟩ := bd_e h
                obtain ⟨f55, k56⟩ := ck_e e54
                refine g_getR (pc := 62) G ci_9 (uw_9 G.2.2.2.2.1) (k := 5) (by decide) rfl rfl k_this (q779 G.2.2.2.2.1) dX10_reckons_62 f55 ?_
                refine g_iconst (pc := 65) G (v := 3) dX10_reckons_65 (by decide) ?_
                refine g_iload_n (pc := 66) G dX10_reckons_66 2 rfl ?_
                refine g_iadd (pc := 67) G dX10_reckons_67 ?_
                refine g_iload_n (pc := 68) G dX10_reckons_68 3 rfl ?_
                obtain ⟨r58, e57, h⟩ := bd_e h
                refine g_callV (pc := 69) (As := [rv b (some r53), .int (3 + v25), .int v45]) (rest := []) (st2 := [.int r58]) G (c_Mo_reads l D ca b k_this k56 e57) (mb_Mo_reads G.2.2.2.2.1) (q997 G.2.2.2.2.1) (q44 G.2.2.2.2.1) (q995 G.2.2.2.2.1) ci_9 k_this rfl rfl (Nat.le_of_ble_eq_true rfl) ⟨Nat.le_trans (Nat.le_of_ble_eq_true rfl) hR.1, Nat.le_trans (Nat.le_of_ble_eq_true rfl) hR.2⟩ ⟨Nat.zero_le _, Nat.zero_le _⟩ rfl rfl dX10_reckons_69 ?_
                refine g_istore (L' := [(4, .int r58), (0, rv b (some this)), (1, .int x6), (2, .int v25), (3, .int v45)]) (pc := 72) G dX10_reckons_72 (by decide) rfl ?_
                refine g_aload_n (pc := 74) G dX10_reckons_74 1 rfl ?_
                obtain ⟨r59, e60, h⟩ := bd_e h
                obtain ⟨f61, k62⟩ := ck_e e60
                refine g_getR (pc := 75) G ci_9 (uw_9 G.2.2.2.2.1) (k := 19) (by decide) rfl rfl k_this (q793 G.2.2.2.2.1) dX10_reckons_75 f61 ?_
                refine g_bipush (pc := 78) G (v := 10) dX10_reckons_78 (by decide) ?_
                refine g_iload_n (pc := 80) G dX10_reckons_80 3 rfl ?_
                refine g_imul (pc := 81) G dX10_reckons_81 ?_
                refine g_iload_n (pc := 82) G dX10_reckons_82 4 rfl ?_
                refine g_iadd (pc := 83) G dX10_reckons_83 ?_
                refine g_iload (pc := 84) G dX10_reckons_84 0 rfl ?_
                obtain ⟨b63, h⟩ := gd_e h
                obtain ⟨V64, e65, h⟩ := lt_e h
                refine g_iast (pc := 86) G k62 b63 e65 dX10_reckons_86 ?_
                refine g_aload_n (pc := 87) G dX10_reckons_87 1 rfl ?_
                obtain ⟨r66, e67, h⟩ := bd_e h
                obtain ⟨f68, k69⟩ := ck_e e67
                refine g_getR (pc := 88) G ci_9 (uw_9 G.2.2.2.2.1) (k := 18) (by decide) rfl rfl k_this (q792 G.2.2.2.2.1) dX10_reckons_88 f68 ?_
                refine g_iload_n (pc := 91) G dX10_reckons_91 3 rfl ?_
                refine g_dup2 (pc := 92) G dX10_reckons_92 rfl rfl ?_
                obtain ⟨b70, h⟩ := gd_e h
                refine g_lald (pc := 93) G k69 b70 dX10_reckons_93 ?_
                refine g_aload_n (pc := 94) G dX10_reckons_94 1 rfl ?_
                obtain ⟨r71, e72, h⟩ := bd_e h
                obtain ⟨f73, k74⟩ := ck_e e72
                refine g_getR (pc := 95) G ci_9 (uw_9 G.2.2.2.2.1) (k := 18) (by decide) rfl rfl k_this (q792 G.2.2.2.2.1) dX10_reckons_95 f73 ?_
                refine g_iload_n (pc := 98) G dX10_reckons_98 3 rfl ?_
                refine g_iload_n (pc := 99) G dX10_reckons_99 4 rfl ?_
                refine g_iadd (pc := 100) G dX10_reckons_100 ?_
                obtain ⟨b75, h⟩ := gd_e h
                refine g_lald (pc := 101) G k74 b75 dX10_reckons_101 ?_
                refine g_iload (pc := 102) G dX10_reckons_102 0 rfl ?_
                obtain ⟨r77, e76, h⟩ := bd_e h
                refine g_callS (pc := 104) (As := [.int r58]) (rest := [.long (aL V64 r71 (v25 + v45).toNatClampNeg), .long (aL V64 r66 v25.toNatClampNeg), .int v25, rv b (some r66)]) (st2 := [.int r77, .long (aL V64 r71 (v25 + v45).toNatClampNeg), .long (aL V64 r66 v25.toNatClampNeg), .int v25, rv b (some r66)]) G (c_Mo_bits l D ca b  e76) (mb_Mo_bits G.2.2.2.2.1) (q908 G.2.2.2.2.1) (q907 G.2.2.2.2.1) rfl rfl (Nat.le_of_ble_eq_true rfl) ⟨Nat.le_trans (Nat.le_of_ble_eq_true rfl) hR.1, Nat.le_trans (Nat.le_of_ble_eq_true rfl) hR.2⟩ ⟨Nat.zero_le _, Nat.zero_le _⟩ rfl rfl dX10_reckons_104 ?_
                refine g_i2l (pc := 107) G dX10_reckons_107 ?_
                refine g_lmul (pc := 108) G dX10_reckons_108 ?_
                refine g_ladd (pc := 109) G dX10_reckons_109 ?_
                obtain ⟨b78, h⟩ := gd_e h
                obtain ⟨V79, e80, h⟩ := lt_e h
                refine g_last (pc := 110) G k69 b78 e80 dX10_reckons_110 ?_
                refine g_aload_n (pc := 111) G dX10_reckons_111 1 rfl ?_
                obtain ⟨r81, e82, h⟩ := bd_e h
                obtain ⟨f83, k84⟩ := ck_e e82
                refine g_getR (pc := 112) G ci_9 (uw_9 G.2.2.2.2.1) (k := 17) (by decide) rfl rfl k_this (q791 G.2.2.2.2.1) dX10_reckons_112 f83 ?_
                refine g_iload_n (pc := 115) G dX10_reckons_115 3 rfl ?_
                refine g_iload (pc := 116) G dX10_reckons_116 0 rfl ?_
                refine g_if_le (pc := 118) G 153 dX10_reckons_118 (by decide) (fun c85 => ?_) (fun c85 => ?_)
                · rw [if_pos c85] at h
                  refine g_aload_n (pc := 153) G dX10_reckons_153 1 rfl ?_
                  obtain ⟨r86, e87, h⟩ := bd_e h
                  obtain ⟨f88, k89⟩ := ck_e e87
                  refine g_getR (pc := 154) G ci_9 (uw_9 G.2.2.2.2.1) (k := 17) (by decide) rfl rfl k_this (q791 G.2.2.2.2.1) dX10_reckons_154 f88 ?_
                  refine g_iload_n (pc := 157) G dX10_reckons_157 3 rfl ?_
                  obtain ⟨b90, h⟩ := gd_e h
                  refine g_iald (pc := 158) G k89 b90 dX10_reckons_158 ?_
                  obtain ⟨b91, h⟩ := gd_e h
                  obtain ⟨V92, e93, h⟩ := lt_e h
                  refine g_iast (pc := 159) G k84 b91 e93 dX10_reckons_159 ?_
                  refine g_iinc (v := v45 + 1) (L' := [(3, .int (v45 + 1)), (4, .int r58), (0, rv b (some this)), (1, .int x6), (2, .int v25)]) (pc := 160) G dX10_reckons_160 4 rfl rfl (by decide) rfl ?_
                  refine g_goto (pc := 163) G 47 dX10_reckons_163 (by decide) ?_
                  exact g_sub [2, 3, 4, 0] rfl (ih47 _ _ _ h K50)
                · rw [if_neg c85] at h
                  refine g_aload_n (pc := 121) G dX10_reckons_121 1 rfl ?_
                  obtain ⟨r94, e95, h⟩ := bd_e h
                  obtain ⟨f96, k97⟩ := ck_e e95
                  refine g_getR (pc := 122) G ci_9 (uw_9 G.2.2.2.2.1) (k := 17) (by decide) rfl rfl k_this (q791 G.2.2.2.2.1) dX10_reckons_122 f96 ?_
                  refine g_iload_n (pc := 125) G dX10_reckons_125 3 rfl ?_
                  refine g_iload_n (pc := 126) G dX10_reckons_126 4 rfl ?_
                  refine g_iadd (pc := 127) G dX10_reckons_127 ?_
                  obtain ⟨b98, h⟩ := gd_e h
                  refine g_iald (pc := 128) G k97 b98 dX10_reckons_128 ?_
                  refine g_iconst (pc := 129) G (v := 1) dX10_reckons_129 (by decide) ?_
                  refine g_iadd (pc := 130) G dX10_reckons_130 ?_
                  refine g_aload_n (pc := 131) G dX10_reckons_131 1 rfl ?_
                  obtain ⟨r99, e100, h⟩ := bd_e h
                  obtain ⟨f101, k102⟩ := ck_e e100
                  refine g_getR (pc := 132) G ci_9 (uw_9 G.2.2.2.2.1) (k := 17) (by decide) rfl rfl k_this (q791 G.2.2.2.2.1) dX10_reckons_132 f101 ?_
                  refine g_iload_n (pc := 135) G dX10_reckons_135 3 rfl ?_
                  obtain ⟨b103, h⟩ := gd_e h
                  refine g_iald (pc := 136) G k102 b103 dX10_reckons_136 ?_
                  refine g_icmp_ge (pc := 137) G 153 dX10_reckons_137 (by decide) (fun c104 => ?_) (fun c104 => ?_)
                  · rw [if_pos c104] at h
                    refine g_aload_n (pc := 153) G dX10_reckons_153 1 rfl ?_
                    obtain ⟨r105, e106, h⟩ := bd_e h
                    obtain ⟨f107, k108⟩ := ck_e e106
                    refine g_getR (pc := 154) G ci_9 (uw_9 G.2.2.2.2.1) (k := 17) (by decide) rfl rfl k_this (q791 G.2.2.2.2.1) dX10_reckons_154 f107 ?_
                    refine g_iload_n (pc := 157) G dX10_reckons_157 3 rfl ?_
                    obtain ⟨b109, h⟩ := gd_e h
                    refine g_iald (pc := 158) G k108 b109 dX10_reckons_158 ?_
                    obtain ⟨b110, h⟩ := gd_e h
                    obtain ⟨V111, e112, h⟩ := lt_e h
                    refine g_iast (pc := 159) G k84 b110 e112 dX10_reckons_159 ?_
                    refine g_iinc (v := v45 + 1) (L' := [(3, .int (v45 + 1)), (4, .int r58), (0, rv b (some this)), (1, .int x6), (2, .int v25)]) (pc := 160) G dX10_reckons_160 4 rfl rfl (by decide) rfl ?_
                    refine g_goto (pc := 163) G 47 dX10_reckons_163 (by decide) ?_
                    exact g_sub [2, 3, 4, 0] rfl (ih47 _ _ _ h K50)
                  · rw [if_neg c104] at h
                    refine g_aload_n (pc := 140) G dX10_reckons_140 1 rfl ?_
                    obtain ⟨r113, e114, h⟩ := bd_e h
                    obtain ⟨f115, k116⟩ := ck_e e114
                    refine g_getR (pc := 141) G ci_9 (uw_9 G.2.2.2.2.1) (k := 17) (by decide) rfl rfl k_this (q791 G.2.2.2.2.1) dX10_reckons_141 f115 ?_
                    refine g_iload_n (pc := 144) G dX10_reckons_144 3 rfl ?_
                    refine g_iload_n (pc := 145) G dX10_reckons_145 4 rfl ?_
                    refine g_iadd (pc := 146) G dX10_reckons_146 ?_
                    obtain ⟨b117, h⟩ := gd_e h
                    refine g_iald (pc := 147) G k116 b117 dX10_reckons_147 ?_
                    refine g_iconst (pc := 148) G (v := 1) dX10_reckons_148 (by decide) ?_
                    refine g_iadd (pc := 149) G dX10_reckons_149 ?_
                    refine g_goto (pc := 150) G 159 dX10_reckons_150 (by decide) ?_
                    obtain ⟨b118, h⟩ := gd_e h
                    obtain ⟨V119, e120, h⟩ := lt_e h
                    refine g_iast (pc := 159) G k84 b118 e120 dX10_reckons_159 ?_
                    refine g_iinc (v := v45 + 1) (L' := [(3, .int (v45 + 1)), (4, .int r58), (0, rv b (some this)), (1, .int x6), (2, .int v25)]) (pc := 160) G dX10_reckons_160 4 rfl rfl (by decide) rfl ?_
                    refine g_goto (pc := 163) G 47 dX10_reckons_163 (by decide) ?_
                    exact g_sub [2, 3, 4, 0] rfl (ih47 _ _ _ h K50)
        obtain ⟨V49, e121, h⟩ := bd_e h
        refine g_sub [1, 2, 3, 0] rfl (LP48 _ _ _ _ e121 ?_)
        refine g_iinc (v := v25 + (-1)) (L' := [(2, .int (v25 + (-1))), (0, rv b (some this)), (1, .int x6)]) (pc := 166) G dX10_reckons_166 2 rfl rfl (by decide) rfl ?_
        refine g_goto (pc := 169) G 25 dX10_reckons_169 (by decide) ?_
        exact g_sub [1, 2, 0] rfl (ih27 _ _ h)
  exact g_sub [2, 1, 0] rfl (LP28 _ _ _ h)
theorem c_Mo_reckons (l : Launch) (D : va_G) (ca : Nat → ClassId) (b : Nat) {T : Tx} {V : Vx} {this : Nat}  {Vf : Vx} (k_this : kd T this = 9) (h : Mo_reckons T V this = some Vf) : MG l yX10_reckons cX10_reckons 5 (Option.none : Option Jvm.ClassFile.FieldType) 6 150 0 0 D ca b [rv b (some this)] T V none T Vf :=
  MG.ofWG (L := [(0, rv b (some this))]) (by decide +kernel) rfl (Nat.le_of_ble_eq_true rfl) (fun _ _ _ _ _ _ _ G _ => w_Mo_reckons G ⟨Nat.le_refl _, Nat.le_refl _⟩ k_this h)
set_option maxHeartbeats 4000000 in
set_option maxRecDepth 100000 in
theorem w_Mo_rowFrom {p : Program} {l : Launch} {e : Env} {R : Room} {s : State} {m : MethodId} {args : Array Value} {below : List Frame} {meth : Method} {c : Code} {D : va_G} {ca : Nat → ClassId} {b : Nat} {T : Tx} {V : Vx} (G : GX p s m meth c cX10_rowFrom 3 (Option.some Jvm.ClassFile.FieldType.int) RX10 "rowFrom" D ca b) (hR : 0 ≤ R.frames ∧ 0 ≤ R.locals) {this : Nat} {p1 : Int32} {rr : Int32}  (k_this : kd T this = 9) (h : Mo_rowFrom T V this p1 = some rr) : WG p l e R s m args below meth c D ca b 3 (QG D ca b (some (.int rr)) T V below args s 0 0) 0 0 T V 0 [(0, rv b (some this)), (1, .int p1)] [] := by
  unfold Mo_rowFrom at h
  refine g_iconst (pc := 0) G (v := 1) dX10_rowFrom_0 (by decide) ?_
  refine g_istore_n (L' := [(2, .int 1), (0, rv b (some this)), (1, .int p1)]) (pc := 1) G dX10_rowFrom_1 (by decide) rfl ?_
  have LP4 : ∀ (n1 : Nat) (v2 : Int32), Mo_rowFrom_L2 T V this p1 n1 v2 = some rr → WG p l e R s m args below meth c D ca b 3 (QG D ca b (some (.int rr)) T V below args s 0 0) 0 0 T V 2 [(0, rv b (some this)), (1, .int p1), (2, .int v2)] [] := by
    intro n1
    induction n1 with
    | zero =>
      intro v2 h
      cases h
    | succ n1 ih3 =>
      intro v2 h
      rw [Mo_rowFrom_L2] at h
      refine g_aload_n (pc := 2) G dX10_rowFrom_2 0 rfl ?_
      obtain ⟨r5, e6, h⟩ := bd_e h
      obtain ⟨f7, k8⟩ := ck_e e6
      refine g_getR (pc := 3) G ci_9 (uw_9 G.2.2.2.2.1) (k := 19) (by decide) rfl rfl k_this (q793 G.2.2.2.2.1) dX10_rowFrom_3 f7 ?_
      refine g_bipush (pc := 6) G (v := 10) dX10_rowFrom_6 (by decide) ?_
      refine g_iload_n (pc := 8) G dX10_rowFrom_8 1 rfl ?_
      refine g_imul (pc := 9) G dX10_rowFrom_9 ?_
      refine g_iload_n (pc := 10) G dX10_rowFrom_10 2 rfl ?_
      refine g_iadd (pc := 11) G dX10_rowFrom_11 ?_
      obtain ⟨b9, h⟩ := gd_e h
      refine g_iald (pc := 12) G k8 b9 dX10_rowFrom_12 ?_
      refine g_if_eq (pc := 13) G 35 dX10_rowFrom_13 (by decide) (fun c10 => ?_) (fun c10 => ?_)
      · rw [if_pos c10] at h
        refine g_iinc (v := v2 + 1) (L' := [(2, .int (v2 + 1)), (0, rv b (some this)), (1, .int p1)]) (pc := 35) G dX10_rowFrom_35 2 rfl rfl (by decide) rfl ?_
        refine g_goto (pc := 38) G 2 dX10_rowFrom_38 (by decide) ?_
        exact g_sub [1, 2, 0] rfl (ih3 _ h)
      · rw [if_neg c10] at h
        refine g_aload_n (pc := 16) G dX10_rowFrom_16 0 rfl ?_
        obtain ⟨r11, e12, h⟩ := bd_e h
        obtain ⟨f13, k14⟩ := ck_e e12
        refine g_getR (pc := 17) G ci_9 (uw_9 G.2.2.2.2.1) (k := 17) (by decide) rfl rfl k_this (q791 G.2.2.2.2.1) dX10_rowFrom_17 f13 ?_
        refine g_iload_n (pc := 20) G dX10_rowFrom_20 1 rfl ?_
        refine g_iload_n (pc := 21) G dX10_rowFrom_21 2 rfl ?_
        refine g_iadd (pc := 22) G dX10_rowFrom_22 ?_
        obtain ⟨b15, h⟩ := gd_e h
        refine g_iald (pc := 23) G k14 b15 dX10_rowFrom_23 ?_
        refine g_iconst (pc := 24) G (v := 1) dX10_rowFrom_24 (by decide) ?_
        refine g_iadd (pc := 25) G dX10_rowFrom_25 ?_
        refine g_aload_n (pc := 26) G dX10_rowFrom_26 0 rfl ?_
        obtain ⟨r16, e17, h⟩ := bd_e h
        obtain ⟨f18, k19⟩ := ck_e e17
        refine g_getR (pc := 27) G ci_9 (uw_9 G.2.2.2.2.1) (k := 17) (by decide) rfl rfl k_this (q791 G.2.2.2.2.1) dX10_rowFrom_27 f18 ?_
        refine g_iload_n (pc := 30) G dX10_rowFrom_30 1 rfl ?_
        obtain ⟨b20, h⟩ := gd_e h
        refine g_iald (pc := 31) G k19 b20 dX10_rowFrom_31 ?_
        refine g_icmp_eq (pc := 32) G 41 dX10_rowFrom_32 (by decide) (fun c21 => ?_) (fun c21 => ?_)
        · rw [if_pos c21] at h
          refine g_iload_n (pc := 41) G dX10_rowFrom_41 2 rfl ?_
          cases h
          exact g_iret (pc := 42) G dX10_rowFrom_42
        · rw [if_neg c21] at h
          refine g_iinc (v := v2 + 1) (L' := [(2, .int (v2 + 1)), (0, rv b (some this)), (1, .int p1)]) (pc := 35) G dX10_rowFrom_35 2 rfl rfl (by decide) rfl ?_
          refine g_goto (pc := 38) G 2 dX10_rowFrom_38 (by decide) ?_
          exact g_sub [1, 2, 0] rfl (ih3 _ h)
  exact g_sub [1, 2, 0] rfl (LP4 _ _ h)
theorem c_Mo_rowFrom (l : Launch) (D : va_G) (ca : Nat → ClassId) (b : Nat) {T : Tx} {V : Vx} {this : Nat} {p1 : Int32} {rr : Int32}  (k_this : kd T this = 9) (h : Mo_rowFrom T V this p1 = some rr) : MG l yX10_rowFrom cX10_rowFrom 3 (Option.some Jvm.ClassFile.FieldType.int) 0 0 0 0 D ca b [rv b (some this), .int p1] T V (some (.int rr)) T V :=
  MG.ofWG (L := [(0, rv b (some this)), (1, .int p1)]) (by decide +kernel) rfl (Nat.le_of_ble_eq_true rfl) (fun _ _ _ _ _ _ _ G _ => w_Mo_rowFrom G ⟨Nat.le_refl _, Nat.le_refl _⟩ k_this h)
set_option maxHeartbeats 4000000 in
set_option maxRecDepth 100000 in
theorem w_Mo_carved {p : Program} {l : Launch} {e : Env} {R : Room} {s : State} {m : MethodId} {args : Array Value} {below : List Frame} {meth : Method} {c : Code} {D : va_G} {ca : Nat → ClassId} {b : Nat} {T : Tx} {V : Vx} (G : GX p s m meth c cX10_carved 2 (Option.some Jvm.ClassFile.FieldType.int) RX10 "carved" D ca b) (hR : 0 ≤ R.frames ∧ 0 ≤ R.locals) {this : Nat} {p1 : Int32} {rr : Int32}  (k_this : kd T this = 9) (h : Mo_carved T V this p1 = some rr) : WG p l e R s m args below meth c D ca b 2 (QG D ca b (some (.int rr)) T V below args s 0 0) 0 0 T V 0 [(0, rv b (some this)), (1, .int p1)] [] := by
  unfold Mo_carved at h
  refine g_iload_n (pc := 0) G dX10_carved_0 1 rfl ?_
  refine g_if_ge (pc := 1) G 8 dX10_carved_1 (by decide) (fun c1 => ?_) (fun c1 => ?_)
  · rw [if_pos c1] at h
    refine g_iload_n (pc := 8) G dX10_carved_8 1 rfl ?_
    refine g_aload_n (pc := 9) G dX10_carved_9 0 rfl ?_
    obtain ⟨r2, e3, h⟩ := bd_e h
    obtain ⟨f4, k5⟩ := ck_e e3
    refine g_getR (pc := 10) G ci_9 (uw_9 G.2.2.2.2.1) (k := 5) (by decide) rfl rfl k_this (q779 G.2.2.2.2.1) dX10_carved_10 f4 ?_
    refine g_iconst (pc := 13) G (v := 2) dX10_carved_13 (by decide) ?_
    obtain ⟨b6, h⟩ := gd_e h
    refine g_iald (pc := 14) G k5 b6 dX10_carved_14 ?_
    refine g_icmp_ge (pc := 15) G 29 dX10_carved_15 (by decide) (fun c7 => ?_) (fun c7 => ?_)
    · rw [if_pos c7] at h
      refine g_bipush (pc := 29) G (v := (-4)) dX10_carved_29 (by decide) ?_
      cases h
      exact g_iret (pc := 31) G dX10_carved_31
    · rw [if_neg c7] at h
      refine g_aload_n (pc := 18) G dX10_carved_18 0 rfl ?_
      obtain ⟨r8, e9, h⟩ := bd_e h
      obtain ⟨f10, k11⟩ := ck_e e9
      refine g_getR (pc := 19) G ci_9 (uw_9 G.2.2.2.2.1) (k := 5) (by decide) rfl rfl k_this (q779 G.2.2.2.2.1) dX10_carved_19 f10 ?_
      refine g_iconst (pc := 22) G (v := 3) dX10_carved_22 (by decide) ?_
      refine g_iload_n (pc := 23) G dX10_carved_23 1 rfl ?_
      refine g_iadd (pc := 24) G dX10_carved_24 ?_
      obtain ⟨b12, h⟩ := gd_e h
      refine g_iald (pc := 25) G k11 b12 dX10_carved_25 ?_
      refine g_goto (pc := 26) G 31 dX10_carved_26 (by decide) ?_
      cases h
      exact g_iret (pc := 31) G dX10_carved_31
  · rw [if_neg c1] at h
    refine g_iconst (pc := 4) G (v := (-1)) dX10_carved_4 (by decide) ?_
    refine g_goto (pc := 5) G 31 dX10_carved_5 (by decide) ?_
    cases h
    exact g_iret (pc := 31) G dX10_carved_31
theorem c_Mo_carved (l : Launch) (D : va_G) (ca : Nat → ClassId) (b : Nat) {T : Tx} {V : Vx} {this : Nat} {p1 : Int32} {rr : Int32}  (k_this : kd T this = 9) (h : Mo_carved T V this p1 = some rr) : MG l yX10_carved cX10_carved 2 (Option.some Jvm.ClassFile.FieldType.int) 0 0 0 0 D ca b [rv b (some this), .int p1] T V (some (.int rr)) T V :=
  MG.ofWG (L := [(0, rv b (some this)), (1, .int p1)]) (by decide +kernel) rfl (Nat.le_of_ble_eq_true rfl) (fun _ _ _ _ _ _ _ G _ => w_Mo_carved G ⟨Nat.le_refl _, Nat.le_refl _⟩ k_this h)
set_option maxHeartbeats 4000000 in
set_option maxRecDepth 100000 in
theorem w_Mo_read {p : Program} {l : Launch} {e : Env} {R : Room} {s : State} {m : MethodId} {args : Array Value} {below : List Frame} {meth : Method} {c : Code} {D : va_G} {ca : Nat → ClassId} {b : Nat} {T : Tx} {V : Vx} (G : GX p s m meth c cX10_read 3 (Option.some Jvm.ClassFile.FieldType.int) RX10 "read" D ca b) (hR : 6 ≤ R.frames ∧ 150 ≤ R.locals) {this : Nat} {p1 : Int32} {p2 : Int32} {rr : Int32}  (k_this : kd T this = 9) (h : Mo_read T V this p1 p2 = some rr) : WG p l e R s m args below meth c D ca b 3 (QG D ca b (some (.int rr)) T V below args s 0 0) 0 0 T V 0 [(0, rv b (some this)), (1, .int p1), (2, .int p2)] [] := by
  unfold Mo_read at h
  refine g_iload_n (pc := 0) G dX10_read_0 1 rfl ?_
  refine g_if_lt (pc := 1) G 16 dX10_read_1 (by decide) (fun c1 => ?_) (fun c1 => ?_)
  · rw [if_pos c1] at h
    refine g_iconst (pc := 16) G (v := (-1)) dX10_read_16 (by decide) ?_
    cases h
    exact g_iret (pc := 17) G dX10_read_17
  · rw [if_neg c1] at h
    refine g_iload_n (pc := 4) G dX10_read_4 2 rfl ?_
    refine g_i2l (pc := 5) G dX10_read_5 ?_
    refine g_lconst (pc := 6) G (v := 1) dX10_read_6 (by decide) ?_
    refine g_ldc2 (pc := 7) G (v := 9) (q1036 G.2.2.2.2.1) dX10_read_7 ?_
    obtain ⟨r3, e2, h⟩ := bd_e h
    refine g_callS (pc := 10) (As := [.long (Int32.toInt64 p2), .long 1, .long 9]) (rest := []) (st2 := [.int r3]) G (c_Mo_in l D ca b  e2) (mb_Mo_in G.2.2.2.2.1) (q842 G.2.2.2.2.1) (q841 G.2.2.2.2.1) rfl rfl (Nat.le_of_ble_eq_true rfl) ⟨Nat.le_trans (Nat.le_of_ble_eq_true rfl) hR.1, Nat.le_trans (Nat.le_of_ble_eq_true rfl) hR.2⟩ ⟨Nat.zero_le _, Nat.zero_le _⟩ rfl rfl dX10_read_10 ?_
    refine g_if_ne (pc := 13) G 18 dX10_read_13 (by decide) (fun c4 => ?_) (fun c4 => ?_)
    · rw [if_neg c4] at h
      refine g_iload_n (pc := 18) G dX10_read_18 1 rfl ?_
      refine g_iload_n (pc := 19) G dX10_read_19 2 rfl ?_
      refine g_iadd (pc := 20) G dX10_read_20 ?_
      refine g_aload_n (pc := 21) G dX10_read_21 0 rfl ?_
      obtain ⟨r5, e6, h⟩ := bd_e h
      obtain ⟨f7, k8⟩ := ck_e e6
      refine g_getR (pc := 22) G ci_9 (uw_9 G.2.2.2.2.1) (k := 5) (by decide) rfl rfl k_this (q779 G.2.2.2.2.1) dX10_read_22 f7 ?_
      refine g_iconst (pc := 25) G (v := 2) dX10_read_25 (by decide) ?_
      obtain ⟨b9, h⟩ := gd_e h
      refine g_iald (pc := 26) G k8 b9 dX10_read_26 ?_
      refine g_icmp_gt (pc := 27) G 36 dX10_read_27 (by decide) (fun c10 => ?_) (fun c10 => ?_)
      · rw [if_pos c10] at h
        refine g_bipush (pc := 36) G (v := (-2)) dX10_read_36 (by decide) ?_
        refine g_goto (pc := 38) G 53 dX10_read_38 (by decide) ?_
        cases h
        exact g_iret (pc := 53) G dX10_read_53
      · rw [if_neg c10] at h
        refine g_iload_n (pc := 30) G dX10_read_30 1 rfl ?_
        refine g_bipush (pc := 31) G (v := 16) dX10_read_31 (by decide) ?_
        refine g_icmp_le (pc := 33) G 41 dX10_read_33 (by decide) (fun c11 => ?_) (fun c11 => ?_)
        · rw [if_pos c11] at h
          refine g_aload_n (pc := 41) G dX10_read_41 0 rfl ?_
          refine g_aload_n (pc := 42) G dX10_read_42 0 rfl ?_
          obtain ⟨r12, e13, h⟩ := bd_e h
          obtain ⟨f14, k15⟩ := ck_e e13
          refine g_getR (pc := 43) G ci_9 (uw_9 G.2.2.2.2.1) (k := 5) (by decide) rfl rfl k_this (q779 G.2.2.2.2.1) dX10_read_43 f14 ?_
          refine g_iconst (pc := 46) G (v := 3) dX10_read_46 (by decide) ?_
          refine g_iload_n (pc := 47) G dX10_read_47 1 rfl ?_
          refine g_iadd (pc := 48) G dX10_read_48 ?_
          refine g_iload_n (pc := 49) G dX10_read_49 2 rfl ?_
          obtain ⟨r17, e16, h⟩ := bd_e h
          refine g_callV (pc := 50) (As := [rv b (some r12), .int (3 + p1), .int p2]) (rest := []) (st2 := [.int r17]) G (c_Mo_reads l D ca b k_this k15 e16) (mb_Mo_reads G.2.2.2.2.1) (q997 G.2.2.2.2.1) (q44 G.2.2.2.2.1) (q995 G.2.2.2.2.1) ci_9 k_this rfl rfl (Nat.le_of_ble_eq_true rfl) ⟨Nat.le_trans (Nat.le_of_ble_eq_true rfl) hR.1, Nat.le_trans (Nat.le_of_ble_eq_true rfl) hR.2⟩ ⟨Nat.zero_le _, Nat.zero_le _⟩ rfl rfl dX10_read_50 ?_
          cases h
          exact g_iret (pc := 53) G dX10_read_53
        · rw [if_neg c11] at h
          refine g_bipush (pc := 36) G (v := (-2)) dX10_read_36 (by decide) ?_
          refine g_goto (pc := 38) G 53 dX10_read_38 (by decide) ?_
          cases h
          exact g_iret (pc := 53) G dX10_read_53
    · rw [if_pos c4] at h
      refine g_iconst (pc := 16) G (v := (-1)) dX10_read_16 (by decide) ?_
      cases h
      exact g_iret (pc := 17) G dX10_read_17
theorem c_Mo_read (l : Launch) (D : va_G) (ca : Nat → ClassId) (b : Nat) {T : Tx} {V : Vx} {this : Nat} {p1 : Int32} {p2 : Int32} {rr : Int32}  (k_this : kd T this = 9) (h : Mo_read T V this p1 p2 = some rr) : MG l yX10_read cX10_read 3 (Option.some Jvm.ClassFile.FieldType.int) 6 150 0 0 D ca b [rv b (some this), .int p1, .int p2] T V (some (.int rr)) T V :=
  MG.ofWG (L := [(0, rv b (some this)), (1, .int p1), (2, .int p2)]) (by decide +kernel) rfl (Nat.le_of_ble_eq_true rfl) (fun _ _ _ _ _ _ _ G _ => w_Mo_read G ⟨Nat.le_refl _, Nat.le_refl _⟩ k_this h)
set_option maxHeartbeats 4000000 in
set_option maxRecDepth 100000 in
theorem w_Mo_readings {p : Program} {l : Launch} {e : Env} {R : Room} {s : State} {m : MethodId} {args : Array Value} {below : List Frame} {meth : Method} {c : Code} {D : va_G} {ca : Nat → ClassId} {b : Nat} {T : Tx} {V : Vx} (G : GX p s m meth c cX10_readings 1 (Option.some Jvm.ClassFile.FieldType.long) RX10 "readings" D ca b) (hR : 7 ≤ R.frames ∧ 174 ≤ R.locals) {this : Nat} {rr : Int64} {Vf : Vx} (k_this : kd T this = 9) (h : Mo_readings T V this = some (rr, Vf)) : WG p l e R s m args below meth c D ca b 1 (QG D ca b (some (.long rr)) T Vf below args s 0 0) 0 0 T V 0 [(0, rv b (some this))] [] := by
  unfold Mo_readings at h
  refine g_aload_n (pc := 0) G dX10_readings_0 0 rfl ?_
  obtain ⟨V2, e1, h⟩ := bd_e h
  refine g_callV (pc := 1) (As := []) (rest := []) (st2 := []) G (c_Mo_reckons l D ca b k_this e1) (mb_Mo_reckons G.2.2.2.2.1) (q1043 G.2.2.2.2.1) (q49 G.2.2.2.2.1) (q1041 G.2.2.2.2.1) ci_9 k_this rfl rfl (Nat.le_of_ble_eq_true rfl) ⟨Nat.le_trans (Nat.le_of_ble_eq_true rfl) hR.1, Nat.le_trans (Nat.le_of_ble_eq_true rfl) hR.2⟩ ⟨Nat.zero_le _, Nat.zero_le _⟩ rfl rfl dX10_readings_1 ?_
  refine g_aload_n (pc := 4) G dX10_readings_4 0 rfl ?_
  obtain ⟨r3, e4, h⟩ := bd_e h
  obtain ⟨f5, k6⟩ := ck_e e4
  refine g_getR (pc := 5) G ci_9 (uw_9 G.2.2.2.2.1) (k := 18) (by decide) rfl rfl k_this (q792 G.2.2.2.2.1) dX10_readings_5 f5 ?_
  refine g_iconst (pc := 8) G (v := 0) dX10_readings_8 (by decide) ?_
  obtain ⟨b7, h⟩ := gd_e h
  refine g_lald (pc := 9) G k6 b7 dX10_readings_9 ?_
  cases h
  exact g_lret (pc := 10) G dX10_readings_10
theorem c_Mo_readings (l : Launch) (D : va_G) (ca : Nat → ClassId) (b : Nat) {T : Tx} {V : Vx} {this : Nat} {rr : Int64} {Vf : Vx} (k_this : kd T this = 9) (h : Mo_readings T V this = some (rr, Vf)) : MG l yX10_readings cX10_readings 1 (Option.some Jvm.ClassFile.FieldType.long) 7 174 0 0 D ca b [rv b (some this)] T V (some (.long rr)) T Vf :=
  MG.ofWG (L := [(0, rv b (some this))]) (by decide +kernel) rfl (Nat.le_of_ble_eq_true rfl) (fun _ _ _ _ _ _ _ G _ => w_Mo_readings G ⟨Nat.le_refl _, Nat.le_refl _⟩ k_this h)
set_option maxHeartbeats 4000000 in
set_option maxRecDepth 100000 in
theorem w_Mo_begins {p : Program} {l : Launch} {e : Env} {R : Room} {s : State} {m : MethodId} {args : Array Value} {below : List Frame} {meth : Method} {c : Code} {D : va_G} {ca : Nat → ClassId} {b : Nat} {T : Tx} {V : Vx} (G : GX p s m meth c cX10_begins 4 (Option.some Jvm.ClassFile.FieldType.int) RX10 "begins" D ca b) (hR : 7 ≤ R.frames ∧ 174 ≤ R.locals) {this : Nat} {p1 : Int32} {rr : Int32} {Vf : Vx} (k_this : kd T this = 9) (h : Mo_begins T V this p1 = some (rr, Vf)) : WG p l e R s m args below meth c D ca b 4 (QG D ca b (some (.int rr)) T Vf below args s 0 0) 0 0 T V 0 [(0, rv b (some this)), (1, .int p1)] [] := by
  unfold Mo_begins at h
  refine g_aload_n (pc := 0) G dX10_begins_0 0 rfl ?_
  obtain ⟨V2, e1, h⟩ := bd_e h
  refine g_callV (pc := 1) (As := []) (rest := []) (st2 := []) G (c_Mo_reckons l D ca b k_this e1) (mb_Mo_reckons G.2.2.2.2.1) (q1043 G.2.2.2.2.1) (q49 G.2.2.2.2.1) (q1041 G.2.2.2.2.1) ci_9 k_this rfl rfl (Nat.le_of_ble_eq_true rfl) ⟨Nat.le_trans (Nat.le_of_ble_eq_true rfl) hR.1, Nat.le_trans (Nat.le_of_ble_eq_true rfl) hR.2⟩ ⟨Nat.zero_le _, Nat.zero_le _⟩ rfl rfl dX10_begins_1 ?_
  refine g_aload_n (pc := 4) G dX10_begins_4 0 rfl ?_
  obtain ⟨r3, e4, h⟩ := bd_e h
  obtain ⟨f5, k6⟩ := ck_e e4
  refine g_getR (pc := 5) G ci_9 (uw_9 G.2.2.2.2.1) (k := 17) (by decide) rfl rfl k_this (q791 G.2.2.2.2.1) dX10_begins_5 f5 ?_
  refine g_iconst (pc := 8) G (v := 0) dX10_begins_8 (by decide) ?_
  obtain ⟨b7, h⟩ := gd_e h
  refine g_iald (pc := 9) G k6 b7 dX10_begins_9 ?_
  refine g_sipush (pc := 10) G (v := 999) dX10_begins_10 (by decide) ?_
  refine g_icmp_gt (pc := 13) G 26 dX10_begins_13 (by decide) (fun c8 => ?_) (fun c8 => ?_)
  · rw [if_pos c8] at h
    refine g_bipush (pc := 26) G (v := (-4)) dX10_begins_26 (by decide) ?_
    cases h
    exact g_iret (pc := 28) G dX10_begins_28
  · rw [if_neg c8] at h
    refine g_iload_n (pc := 16) G dX10_begins_16 1 rfl ?_
    refine g_aload_n (pc := 17) G dX10_begins_17 0 rfl ?_
    obtain ⟨r9, e10, h⟩ := bd_e h
    obtain ⟨f11, k12⟩ := ck_e e10
    refine g_getR (pc := 18) G ci_9 (uw_9 G.2.2.2.2.1) (k := 17) (by decide) rfl rfl k_this (q791 G.2.2.2.2.1) dX10_begins_18 f11 ?_
    refine g_iconst (pc := 21) G (v := 0) dX10_begins_21 (by decide) ?_
    obtain ⟨b13, h⟩ := gd_e h
    refine g_iald (pc := 22) G k12 b13 dX10_begins_22 ?_
    refine g_icmp_lt (pc := 23) G 29 dX10_begins_23 (by decide) (fun c14 => ?_) (fun c14 => ?_)
    · rw [if_pos c14] at h
      refine g_iconst (pc := 29) G (v := 0) dX10_begins_29 (by decide) ?_
      refine g_istore_n (L' := [(2, .int 0), (0, rv b (some this)), (1, .int p1)]) (pc := 30) G dX10_begins_30 (by decide) rfl ?_
      refine g_iconst (pc := 31) G (v := 0) dX10_begins_31 (by decide) ?_
      refine g_istore_n (L' := [(3, .int 0), (2, .int 0), (0, rv b (some this)), (1, .int p1)]) (pc := 32) G dX10_begins_32 (by decide) rfl ?_
      have LP19 : ∀ (n15 : Nat) (v16 : Int32) (v17 : Int32), Mo_begins_L33 T V2 this p1 n15 v16 v17 = some (rr, Vf) → WG p l e R s m args below meth c D ca b 4 (QG D ca b (some (.int rr)) T Vf below args s 0 0) 0 0 T V2 33 [(0, rv b (some this)), (1, .int p1), (2, .int v16), (3, .int v17)] [] := by
        intro n15
        induction n15 with
        | zero =>
          intro v16 v17 h
          cases h
        | succ n15 ih18 =>
          intro v16 v17 h
          rw [Mo_begins_L33] at h
          refine g_iload_n (pc := 33) G dX10_begins_33 3 rfl ?_
          refine g_iload_n (pc := 34) G dX10_begins_34 1 rfl ?_
          refine g_icmp_ge (pc := 35) G 52 dX10_begins_35 (by decide) (fun c20 => ?_) (fun c20 => ?_)
          · rw [if_pos c20] at h
            refine g_iload_n (pc := 52) G dX10_begins_52 2 rfl ?_
            cases h
            exact g_iret (pc := 53) G dX10_begins_53
          · rw [if_neg c20] at h
            refine g_iload_n (pc := 38) G dX10_begins_38 2 rfl ?_
            refine g_aload_n (pc := 39) G dX10_begins_39 0 rfl ?_
            refine g_iload_n (pc := 40) G dX10_begins_40 2 rfl ?_
            obtain ⟨r22, e21, h⟩ := bd_e h
            refine g_callV (pc := 41) (As := [.int v16]) (rest := [.int v16]) (st2 := [.int r22, .int v16]) G (c_Mo_rowFrom l D ca b k_this e21) (mb_Mo_rowFrom G.2.2.2.2.1) (q1055 G.2.2.2.2.1) (q51 G.2.2.2.2.1) (q1053 G.2.2.2.2.1) ci_9 k_this rfl rfl (Nat.le_of_ble_eq_true rfl) ⟨Nat.le_trans (Nat.le_of_ble_eq_true rfl) hR.1, Nat.le_trans (Nat.le_of_ble_eq_true rfl) hR.2⟩ ⟨Nat.zero_le _, Nat.zero_le _⟩ rfl rfl dX10_begins_41 ?_
            refine g_iadd (pc := 44) G dX10_begins_44 ?_
            obtain ⟨x23, e24, h⟩ := lt_e h
            rw [e24]
            refine g_istore_n (L' := [(2, .int x23), (0, rv b (some this)), (1, .int p1), (3, .int v17)]) (pc := 45) G dX10_begins_45 (by decide) rfl ?_
            refine g_iinc (v := v17 + 1) (L' := [(3, .int (v17 + 1)), (2, .int x23), (0, rv b (some this)), (1, .int p1)]) (pc := 46) G dX10_begins_46 3 rfl rfl (by decide) rfl ?_
            refine g_goto (pc := 49) G 33 dX10_begins_49 (by decide) ?_
            exact g_sub [2, 3, 1, 0] rfl (ih18 _ _ h)
      exact g_sub [2, 3, 1, 0] rfl (LP19 _ _ _ h)
    · rw [if_neg c14] at h
      refine g_bipush (pc := 26) G (v := (-4)) dX10_begins_26 (by decide) ?_
      cases h
      exact g_iret (pc := 28) G dX10_begins_28
theorem c_Mo_begins (l : Launch) (D : va_G) (ca : Nat → ClassId) (b : Nat) {T : Tx} {V : Vx} {this : Nat} {p1 : Int32} {rr : Int32} {Vf : Vx} (k_this : kd T this = 9) (h : Mo_begins T V this p1 = some (rr, Vf)) : MG l yX10_begins cX10_begins 4 (Option.some Jvm.ClassFile.FieldType.int) 7 174 0 0 D ca b [rv b (some this), .int p1] T V (some (.int rr)) T Vf :=
  MG.ofWG (L := [(0, rv b (some this)), (1, .int p1)]) (by decide +kernel) rfl (Nat.le_of_ble_eq_true rfl) (fun _ _ _ _ _ _ _ G _ => w_Mo_begins G ⟨Nat.le_refl _, Nat.le_refl _⟩ k_this h)
set_option maxHeartbeats 4000000 in
set_option maxRecDepth 100000 in
theorem w_Mo_reading {p : Program} {l : Launch} {e : Env} {R : Room} {s : State} {m : MethodId} {args : Array Value} {below : List Frame} {meth : Method} {c : Code} {D : va_G} {ca : Nat → ClassId} {b : Nat} {T : Tx} {V : Vx} (G : GX p s m meth c cX10_reading 5 (Option.some Jvm.ClassFile.FieldType.int) RX10 "reading" D ca b) (hR : 8 ≤ R.frames ∧ 197 ≤ R.locals) {this : Nat} {p1 : Int32} {rr : Int32} {Vf : Vx} (k_this : kd T this = 9) (h : Mo_reading T V this p1 = some (rr, Vf)) : WG p l e R s m args below meth c D ca b 5 (QG D ca b (some (.int rr)) T Vf below args s 0 0) 0 0 T V 0 [(0, rv b (some this)), (1, .int p1)] [] := by
  unfold Mo_reading at h
  refine g_iload_n (pc := 0) G dX10_reading_0 1 rfl ?_
  refine g_iconst (pc := 1) G (v := (-1)) dX10_reading_1 (by decide) ?_
  refine g_icmp_ge (pc := 2) G 7 dX10_reading_2 (by decide) (fun c1 => ?_) (fun c1 => ?_)
  · rw [if_pos c1] at h
    refine g_aload_n (pc := 7) G dX10_reading_7 0 rfl ?_
    refine g_iload_n (pc := 8) G dX10_reading_8 1 rfl ?_
    obtain ⟨r4, V3, e2, h⟩ := bd2_e h
    refine g_callV (pc := 9) (As := [.int p1]) (rest := []) (st2 := [.int r4]) G (c_Mo_begins l D ca b k_this e2) (mb_Mo_begins G.2.2.2.2.1) (q1051 G.2.2.2.2.1) (q50 G.2.2.2.2.1) (q1049 G.2.2.2.2.1) ci_9 k_this rfl rfl (Nat.le_of_ble_eq_true rfl) ⟨Nat.le_trans (Nat.le_of_ble_eq_true rfl) hR.1, Nat.le_trans (Nat.le_of_ble_eq_true rfl) hR.2⟩ ⟨Nat.zero_le _, Nat.zero_le _⟩ rfl rfl dX10_reading_9 ?_
    refine g_istore_n (L' := [(2, .int r4), (0, rv b (some this)), (1, .int p1)]) (pc := 12) G dX10_reading_12 (by decide) rfl ?_
    refine g_iload_n (pc := 13) G dX10_reading_13 2 rfl ?_
    refine g_iconst (pc := 14) G (v := (-1)) dX10_reading_14 (by decide) ?_
    refine g_icmp_ne (pc := 15) G 42 dX10_reading_15 (by decide) (fun c5 => ?_) (fun c5 => ?_)
    · rw [if_neg c5] at h
      refine g_iload_n (pc := 42) G dX10_reading_42 0 rfl ?_
      refine g_bipush (pc := 43) G (v := (-4)) dX10_reading_43 (by decide) ?_
      refine g_icmp_ne (pc := 45) G 51 dX10_reading_45 (by decide) (fun c6 => ?_) (fun c6 => ?_)
      · rw [if_neg c6] at h
        refine g_aload_n (pc := 51) G dX10_reading_51 1 rfl ?_
        obtain ⟨r7, e8, h⟩ := bd_e h
        obtain ⟨f9, k10⟩ := ck_e e8
        refine g_getR (pc := 52) G ci_9 (uw_9 G.2.2.2.2.1) (k := 19) (by decide) rfl rfl k_this (q793 G.2.2.2.2.1) dX10_reading_52 f9 ?_
        refine g_bipush (pc := 55) G (v := 10) dX10_reading_55 (by decide) ?_
        refine g_iload_n (pc := 57) G dX10_reading_57 0 rfl ?_
        refine g_imul (pc := 58) G dX10_reading_58 ?_
        refine g_aload_n (pc := 59) G dX10_reading_59 1 rfl ?_
        refine g_iload_n (pc := 60) G dX10_reading_60 0 rfl ?_
        obtain ⟨r12, e11, h⟩ := bd_e h
        refine g_callV (pc := 61) (As := [.int r4]) (rest := [.int (10 * r4), rv b (some r7)]) (st2 := [.int r12, .int (10 * r4), rv b (some r7)]) G (c_Mo_rowFrom l D ca b k_this e11) (mb_Mo_rowFrom G.2.2.2.2.1) (q1055 G.2.2.2.2.1) (q51 G.2.2.2.2.1) (q1053 G.2.2.2.2.1) ci_9 k_this rfl rfl (Nat.le_of_ble_eq_true rfl) ⟨Nat.le_trans (Nat.le_of_ble_eq_true rfl) hR.1, Nat.le_trans (Nat.le_of_ble_eq_true rfl) hR.2⟩ ⟨Nat.zero_le _, Nat.zero_le _⟩ rfl rfl dX10_reading_61 ?_
        refine g_iadd (pc := 64) G dX10_reading_64 ?_
        obtain ⟨b13, h⟩ := gd_e h
        refine g_iald (pc := 65) G k10 b13 dX10_reading_65 ?_
        obtain ⟨x14, e15, h⟩ := lt_e h
        rw [e15]
        refine g_istore_n (L' := [(3, .int x14), (2, .int r4), (0, rv b (some this)), (1, .int p1)]) (pc := 66) G dX10_reading_66 (by decide) rfl ?_
        refine g_iconst (pc := 67) G (v := 0) dX10_reading_67 (by decide) ?_
        refine g_istore (L' := [(4, .int 0), (3, .int x14), (2, .int r4), (0, rv b (some this)), (1, .int p1)]) (pc := 68) G dX10_reading_68 (by decide) rfl ?_
        have LP19 : ∀ (n16 : Nat) (v17 : Int32), Mo_reading_L70 T V3 x14 n16 v17 = some (rr, Vf) → WG p l e R s m args below meth c D ca b 5 (QG D ca b (some (.int rr)) T Vf below args s 0 0) 0 0 T V3 70 [(3, .int x14), (4, .int v17)] [] := by
          intro n16
          induction n16 with
          | zero =>
            intro v17 h
            cases h
          | succ n16 ih18 =>
            intro v17 h
            rw [Mo_reading_L70] at h
            refine g_iload_n (pc := 70) G dX10_reading_70 0 rfl ?_
            refine g_iload (pc := 71) G dX10_reading_71 1 rfl ?_
            refine g_ishr (pc := 73) G dX10_reading_73 ?_
            refine g_iconst (pc := 74) G (v := 1) dX10_reading_74 (by decide) ?_
            refine g_iand (pc := 75) G dX10_reading_75 ?_
            refine g_if_ne (pc := 76) G 85 dX10_reading_76 (by decide) (fun c20 => ?_) (fun c20 => ?_)
            · rw [if_neg c20] at h
              refine g_iload (pc := 85) G dX10_reading_85 1 rfl ?_
              cases h
              exact g_iret (pc := 87) G dX10_reading_87
            · rw [if_pos c20] at h
              refine g_iinc (v := v17 + 1) (L' := [(4, .int (v17 + 1)), (3, .int x14)]) (pc := 79) G dX10_reading_79 1 rfl rfl (by decide) rfl ?_
              refine g_goto (pc := 82) G 70 dX10_reading_82 (by decide) ?_
              exact g_sub [1, 0] rfl (ih18 _ h)
        exact g_sub [1, 0] rfl (LP19 _ _ h)
      · rw [if_pos c6] at h
        refine g_bipush (pc := 48) G (v := (-4)) dX10_reading_48 (by decide) ?_
        cases h
        exact g_iret (pc := 50) G dX10_reading_50
    · rw [if_pos c5] at h
      refine g_aload_n (pc := 18) G dX10_reading_18 1 rfl ?_
      obtain ⟨r21, e22, h⟩ := bd_e h
      obtain ⟨f23, k24⟩ := ck_e e22
      refine g_getR (pc := 19) G ci_9 (uw_9 G.2.2.2.2.1) (k := 17) (by decide) rfl rfl k_this (q791 G.2.2.2.2.1) dX10_reading_19 f23 ?_
      refine g_iconst (pc := 22) G (v := 0) dX10_reading_22 (by decide) ?_
      obtain ⟨b25, h⟩ := gd_e h
      refine g_iald (pc := 23) G k24 b25 dX10_reading_23 ?_
      refine g_sipush (pc := 24) G (v := 999) dX10_reading_24 (by decide) ?_
      refine g_icmp_le (pc := 27) G 35 dX10_reading_27 (by decide) (fun c26 => ?_) (fun c26 => ?_)
      · rw [if_pos c26] at h
        refine g_aload_n (pc := 35) G dX10_reading_35 1 rfl ?_
        obtain ⟨r27, e28, h⟩ := bd_e h
        obtain ⟨f29, k30⟩ := ck_e e28
        refine g_getR (pc := 36) G ci_9 (uw_9 G.2.2.2.2.1) (k := 17) (by decide) rfl rfl k_this (q791 G.2.2.2.2.1) dX10_reading_36 f29 ?_
        refine g_iconst (pc := 39) G (v := 0) dX10_reading_39 (by decide) ?_
        obtain ⟨b31, h⟩ := gd_e h
        refine g_iald (pc := 40) G k30 b31 dX10_reading_40 ?_
        cases h
        exact g_iret (pc := 41) G dX10_reading_41
      · rw [if_neg c26] at h
        refine g_bipush (pc := 30) G (v := (-4)) dX10_reading_30 (by decide) ?_
        refine g_goto (pc := 32) G 41 dX10_reading_32 (by decide) ?_
        cases h
        exact g_iret (pc := 41) G dX10_reading_41
  · rw [if_neg c1] at h
    refine g_iconst (pc := 5) G (v := (-1)) dX10_reading_5 (by decide) ?_
    cases h
    exact g_iret (pc := 6) G dX10_reading_6
theorem c_Mo_reading (l : Launch) (D : va_G) (ca : Nat → ClassId) (b : Nat) {T : Tx} {V : Vx} {this : Nat} {p1 : Int32} {rr : Int32} {Vf : Vx} (k_this : kd T this = 9) (h : Mo_reading T V this p1 = some (rr, Vf)) : MG l yX10_reading cX10_reading 5 (Option.some Jvm.ClassFile.FieldType.int) 8 197 0 0 D ca b [rv b (some this), .int p1] T V (some (.int rr)) T Vf :=
  MG.ofWG (L := [(0, rv b (some this)), (1, .int p1)]) (by decide +kernel) rfl (Nat.le_of_ble_eq_true rfl) (fun _ _ _ _ _ _ _ G _ => w_Mo_reading G ⟨Nat.le_refl _, Nat.le_refl _⟩ k_this h)
set_option maxHeartbeats 4000000 in
set_option maxRecDepth 100000 in
theorem w_Mo_cut {p : Program} {l : Launch} {e : Env} {R : Room} {s : State} {m : MethodId} {args : Array Value} {below : List Frame} {meth : Method} {c : Code} {D : va_G} {ca : Nat → ClassId} {b : Nat} {T : Tx} {V : Vx} (G : GX p s m meth c cX10_cut 3 (Option.some Jvm.ClassFile.FieldType.int) RX10 "cut" D ca b) (hR : 8 ≤ R.frames ∧ 197 ≤ R.locals) {this : Nat} {p1 : Int32} {rr : Int32} {Vf : Vx} (k_this : kd T this = 9) (h : Mo_cut T V this p1 = some (rr, Vf)) : WG p l e R s m args below meth c D ca b 3 (QG D ca b (some (.int rr)) T Vf below args s 0 0) 0 0 T V 0 [(0, rv b (some this)), (1, .int p1)] [] := by
  unfold Mo_cut at h
  refine g_iload_n (pc := 0) G dX10_cut_0 1 rfl ?_
  refine g_if_ge (pc := 1) G 6 dX10_cut_1 (by decide) (fun c1 => ?_) (fun c1 => ?_)
  · rw [if_pos c1] at h
    refine g_aload_n (pc := 6) G dX10_cut_6 0 rfl ?_
    refine g_iload_n (pc := 7) G dX10_cut_7 1 rfl ?_
    obtain ⟨r4, V3, e2, h⟩ := bd2_e h
    refine g_callV (pc := 8) (As := [.int p1]) (rest := []) (st2 := [.int r4]) G (c_Mo_begins l D ca b k_this e2) (mb_Mo_begins G.2.2.2.2.1) (q1051 G.2.2.2.2.1) (q50 G.2.2.2.2.1) (q1049 G.2.2.2.2.1) ci_9 k_this rfl rfl (Nat.le_of_ble_eq_true rfl) ⟨Nat.le_trans (Nat.le_of_ble_eq_true rfl) hR.1, Nat.le_trans (Nat.le_of_ble_eq_true rfl) hR.2⟩ ⟨Nat.zero_le _, Nat.zero_le _⟩ rfl rfl dX10_cut_8 ?_
    refine g_istore_n (L' := [(2, .int r4), (0, rv b (some this)), (1, .int p1)]) (pc := 11) G dX10_cut_11 (by decide) rfl ?_
    refine g_iload_n (pc := 12) G dX10_cut_12 0 rfl ?_
    refine g_bipush (pc := 13) G (v := (-4)) dX10_cut_13 (by decide) ?_
    refine g_icmp_ne (pc := 15) G 23 dX10_cut_15 (by decide) (fun c5 => ?_) (fun c5 => ?_)
    · rw [if_neg c5] at h
      refine g_aload_n (pc := 23) G dX10_cut_23 1 rfl ?_
      refine g_iload_n (pc := 24) G dX10_cut_24 0 rfl ?_
      obtain ⟨r7, e6, h⟩ := bd_e h
      refine g_callV (pc := 25) (As := [.int r4]) (rest := []) (st2 := [.int r7]) G (c_Mo_rowFrom l D ca b k_this e6) (mb_Mo_rowFrom G.2.2.2.2.1) (q1055 G.2.2.2.2.1) (q51 G.2.2.2.2.1) (q1053 G.2.2.2.2.1) ci_9 k_this rfl rfl (Nat.le_of_ble_eq_true rfl) ⟨Nat.le_trans (Nat.le_of_ble_eq_true rfl) hR.1, Nat.le_trans (Nat.le_of_ble_eq_true rfl) hR.2⟩ ⟨Nat.zero_le _, Nat.zero_le _⟩ rfl rfl dX10_cut_25 ?_
      cases h
      exact g_iret (pc := 28) G dX10_cut_28
    · rw [if_pos c5] at h
      refine g_bipush (pc := 18) G (v := (-4)) dX10_cut_18 (by decide) ?_
      refine g_goto (pc := 20) G 28 dX10_cut_20 (by decide) ?_
      cases h
      exact g_iret (pc := 28) G dX10_cut_28
  · rw [if_neg c1] at h
    refine g_iconst (pc := 4) G (v := (-1)) dX10_cut_4 (by decide) ?_
    cases h
    exact g_iret (pc := 5) G dX10_cut_5
theorem c_Mo_cut (l : Launch) (D : va_G) (ca : Nat → ClassId) (b : Nat) {T : Tx} {V : Vx} {this : Nat} {p1 : Int32} {rr : Int32} {Vf : Vx} (k_this : kd T this = 9) (h : Mo_cut T V this p1 = some (rr, Vf)) : MG l yX10_cut cX10_cut 3 (Option.some Jvm.ClassFile.FieldType.int) 8 197 0 0 D ca b [rv b (some this), .int p1] T V (some (.int rr)) T Vf :=
  MG.ofWG (L := [(0, rv b (some this)), (1, .int p1)]) (by decide +kernel) rfl (Nat.le_of_ble_eq_true rfl) (fun _ _ _ _ _ _ _ G _ => w_Mo_cut G ⟨Nat.le_refl _, Nat.le_refl _⟩ k_this h)
