set_option maxHeartbeats 4000000 in
set_option maxRecDepth 100000 in
theorem w_Ji_bitCount {p : Program} {l : Launch} {e : Env} {R : Room} {s : State} {m : MethodId} {args : Array Value} {below : List Frame} {meth : Method} {c : Code} {D : va_G} {ca : Nat → ClassId} {b : Nat} {T : Tx} {V : Vx} (G : GX p s m meth c cJ6_bitCount_0f7a4 1 (Option.some Jvm.ClassFile.FieldType.int) RJ6 "bitCount" D ca b) (hR : 0 ≤ R.frames ∧ 0 ≤ R.locals) {p1 : Int32} {rr : Int32}   (h : Ji_bitCount T V p1 = some rr) : WG p l e R s m args below meth c D ca b 1 (QG D ca b (some (.int rr)) T V below args s 0 0) 0 0 T V 0 [(0, .int p1)] [] := by
  unfold Ji_bitCount at h
  refine g_iload_n (pc := 0) G dJ6_bitCount_0f7a4_0 0 rfl ?_
  refine g_iload_n (pc := 1) G dJ6_bitCount_0f7a4_1 0 rfl ?_
  refine g_iconst (pc := 2) G (v := 1) dJ6_bitCount_0f7a4_2 (by decide) ?_
  refine g_iushr (pc := 3) G dJ6_bitCount_0f7a4_3 ?_
  refine g_ldcw (pc := 4) G (v := 1431655765) (q706 G.2.2.2.2.1) dJ6_bitCount_0f7a4_4 ?_
  refine g_iand (pc := 7) G dJ6_bitCount_0f7a4_7 ?_
  refine g_isub (pc := 8) G dJ6_bitCount_0f7a4_8 ?_
  obtain ⟨x1, e2, h⟩ := lt_e h
  rw [e2]
  refine g_istore_n (L' := [(0, .int x1)]) (pc := 9) G dJ6_bitCount_0f7a4_9 (by decide) rfl ?_
  refine g_iload_n (pc := 10) G dJ6_bitCount_0f7a4_10 0 rfl ?_
  refine g_ldcw (pc := 11) G (v := 858993459) (q707 G.2.2.2.2.1) dJ6_bitCount_0f7a4_11 ?_
  refine g_iand (pc := 14) G dJ6_bitCount_0f7a4_14 ?_
  refine g_iload_n (pc := 15) G dJ6_bitCount_0f7a4_15 0 rfl ?_
  refine g_iconst (pc := 16) G (v := 2) dJ6_bitCount_0f7a4_16 (by decide) ?_
  refine g_iushr (pc := 17) G dJ6_bitCount_0f7a4_17 ?_
  refine g_ldcw (pc := 18) G (v := 858993459) (q707 G.2.2.2.2.1) dJ6_bitCount_0f7a4_18 ?_
  refine g_iand (pc := 21) G dJ6_bitCount_0f7a4_21 ?_
  refine g_iadd (pc := 22) G dJ6_bitCount_0f7a4_22 ?_
  obtain ⟨x3, e4, h⟩ := lt_e h
  rw [e4]
  refine g_istore_n (L' := [(0, .int x3)]) (pc := 23) G dJ6_bitCount_0f7a4_23 (by decide) rfl ?_
  refine g_iload_n (pc := 24) G dJ6_bitCount_0f7a4_24 0 rfl ?_
  refine g_iload_n (pc := 25) G dJ6_bitCount_0f7a4_25 0 rfl ?_
  refine g_iconst (pc := 26) G (v := 4) dJ6_bitCount_0f7a4_26 (by decide) ?_
  refine g_iushr (pc := 27) G dJ6_bitCount_0f7a4_27 ?_
  refine g_iadd (pc := 28) G dJ6_bitCount_0f7a4_28 ?_
  refine g_ldcw (pc := 29) G (v := 252645135) (q708 G.2.2.2.2.1) dJ6_bitCount_0f7a4_29 ?_
  refine g_iand (pc := 32) G dJ6_bitCount_0f7a4_32 ?_
  obtain ⟨x5, e6, h⟩ := lt_e h
  rw [e6]
  refine g_istore_n (L' := [(0, .int x5)]) (pc := 33) G dJ6_bitCount_0f7a4_33 (by decide) rfl ?_
  refine g_iload_n (pc := 34) G dJ6_bitCount_0f7a4_34 0 rfl ?_
  refine g_iload_n (pc := 35) G dJ6_bitCount_0f7a4_35 0 rfl ?_
  refine g_bipush (pc := 36) G (v := 8) dJ6_bitCount_0f7a4_36 (by decide) ?_
  refine g_iushr (pc := 38) G dJ6_bitCount_0f7a4_38 ?_
  refine g_iadd (pc := 39) G dJ6_bitCount_0f7a4_39 ?_
  obtain ⟨x7, e8, h⟩ := lt_e h
  rw [e8]
  refine g_istore_n (L' := [(0, .int x7)]) (pc := 40) G dJ6_bitCount_0f7a4_40 (by decide) rfl ?_
  refine g_iload_n (pc := 41) G dJ6_bitCount_0f7a4_41 0 rfl ?_
  refine g_iload_n (pc := 42) G dJ6_bitCount_0f7a4_42 0 rfl ?_
  refine g_bipush (pc := 43) G (v := 16) dJ6_bitCount_0f7a4_43 (by decide) ?_
  refine g_iushr (pc := 45) G dJ6_bitCount_0f7a4_45 ?_
  refine g_iadd (pc := 46) G dJ6_bitCount_0f7a4_46 ?_
  obtain ⟨x9, e10, h⟩ := lt_e h
  rw [e10]
  refine g_istore_n (L' := [(0, .int x9)]) (pc := 47) G dJ6_bitCount_0f7a4_47 (by decide) rfl ?_
  refine g_iload_n (pc := 48) G dJ6_bitCount_0f7a4_48 0 rfl ?_
  refine g_bipush (pc := 49) G (v := 63) dJ6_bitCount_0f7a4_49 (by decide) ?_
  refine g_iand (pc := 51) G dJ6_bitCount_0f7a4_51 ?_
  cases h
  exact g_iret (pc := 52) G dJ6_bitCount_0f7a4_52
theorem c_Ji_bitCount (l : Launch) (D : va_G) (ca : Nat → ClassId) (b : Nat) {T : Tx} {V : Vx} {p1 : Int32} {rr : Int32}   (h : Ji_bitCount T V p1 = some rr) : MG l yJ6_bitCount_0f7a4 cJ6_bitCount_0f7a4 1 (Option.some Jvm.ClassFile.FieldType.int) 0 0 0 0 D ca b [.int p1] T V (some (.int rr)) T V :=
  MG.ofWG (L := [(0, .int p1)]) (by decide +kernel) rfl (Nat.le_of_ble_eq_true rfl) (fun _ _ _ _ _ _ _ G _ => w_Ji_bitCount G ⟨Nat.le_refl _, Nat.le_refl _⟩  h)
set_option maxHeartbeats 4000000 in
set_option maxRecDepth 100000 in
theorem w_Re_lowestBit {p : Program} {l : Launch} {e : Env} {R : Room} {s : State} {m : MethodId} {args : Array Value} {below : List Frame} {meth : Method} {c : Code} {D : va_G} {ca : Nat → ClassId} {b : Nat} {T : Tx} {V : Vx} (G : GX p s m meth c cX4_lowestBit 2 (Option.some Jvm.ClassFile.FieldType.int) RX4 "lowestBit" D ca b) (hR : 0 ≤ R.frames ∧ 0 ≤ R.locals) {p1 : Int32} {rr : Int32}   (h : Re_lowestBit T V p1 = some rr) : WG p l e R s m args below meth c D ca b 2 (QG D ca b (some (.int rr)) T V below args s 0 0) 0 0 T V 0 [(0, .int p1)] [] := by
  unfold Re_lowestBit at h
  refine g_iconst (pc := 0) G (v := 0) dX4_lowestBit_0 (by decide) ?_
  refine g_istore_n (L' := [(1, .int 0), (0, .int p1)]) (pc := 1) G dX4_lowestBit_1 (by decide) rfl ?_
  have LP4 : ∀ (n1 : Nat) (v2 : Int32), Re_lowestBit_L2 T V p1 n1 v2 = some rr → WG p l e R s m args below meth c D ca b 2 (QG D ca b (some (.int rr)) T V below args s 0 0) 0 0 T V 2 [(0, .int p1), (1, .int v2)] [] := by
    intro n1
    induction n1 with
    | zero =>
      intro v2 h
      cases h
    | succ n1 ih3 =>
      intro v2 h
      rw [Re_lowestBit_L2] at h
      refine g_iload_n (pc := 2) G dX4_lowestBit_2 1 rfl ?_
      refine g_bipush (pc := 3) G (v := 8) dX4_lowestBit_3 (by decide) ?_
      refine g_icmp_ge (pc := 5) G 24 dX4_lowestBit_5 (by decide) (fun c5 => ?_) (fun c5 => ?_)
      · rw [if_pos c5] at h
        refine g_bipush (pc := 24) G (v := (-4)) dX4_lowestBit_24 (by decide) ?_
        cases h
        exact g_iret (pc := 26) G dX4_lowestBit_26
      · rw [if_neg c5] at h
        refine g_iload_n (pc := 8) G dX4_lowestBit_8 0 rfl ?_
        refine g_iload_n (pc := 9) G dX4_lowestBit_9 1 rfl ?_
        refine g_ishr (pc := 10) G dX4_lowestBit_10 ?_
        refine g_iconst (pc := 11) G (v := 1) dX4_lowestBit_11 (by decide) ?_
        refine g_iand (pc := 12) G dX4_lowestBit_12 ?_
        refine g_if_eq (pc := 13) G 18 dX4_lowestBit_13 (by decide) (fun c6 => ?_) (fun c6 => ?_)
        · rw [if_pos c6] at h
          refine g_iinc (v := v2 + 1) (L' := [(1, .int (v2 + 1)), (0, .int p1)]) (pc := 18) G dX4_lowestBit_18 1 rfl rfl (by decide) rfl ?_
          refine g_goto (pc := 21) G 2 dX4_lowestBit_21 (by decide) ?_
          exact g_sub [1, 0] rfl (ih3 _ h)
        · rw [if_neg c6] at h
          refine g_iload_n (pc := 16) G dX4_lowestBit_16 1 rfl ?_
          cases h
          exact g_iret (pc := 17) G dX4_lowestBit_17
  exact g_sub [1, 0] rfl (LP4 _ _ h)
theorem c_Re_lowestBit (l : Launch) (D : va_G) (ca : Nat → ClassId) (b : Nat) {T : Tx} {V : Vx} {p1 : Int32} {rr : Int32}   (h : Re_lowestBit T V p1 = some rr) : MG l yX4_lowestBit cX4_lowestBit 2 (Option.some Jvm.ClassFile.FieldType.int) 0 0 0 0 D ca b [.int p1] T V (some (.int rr)) T V :=
  MG.ofWG (L := [(0, .int p1)]) (by decide +kernel) rfl (Nat.le_of_ble_eq_true rfl) (fun _ _ _ _ _ _ _ G _ => w_Re_lowestBit G ⟨Nat.le_refl _, Nat.le_refl _⟩  h)
set_option maxHeartbeats 4000000 in
set_option maxRecDepth 100000 in
theorem w_Re_join {p : Program} {l : Launch} {e : Env} {R : Room} {s : State} {m : MethodId} {args : Array Value} {below : List Frame} {meth : Method} {c : Code} {D : va_G} {ca : Nat → ClassId} {b : Nat} {T : Tx} {V : Vx} (G : GX p s m meth c cX4_join 5 (Option.none : Option Jvm.ClassFile.FieldType) RX4 "join" D ca b) (hR : 1 ≤ R.frames ∧ 21 ≤ R.locals) {this : Nat} {p1 : Int32} {p2 : Int32}  {Vf : Vx} (k_this : kd T this = 3) (h : Re_join T V this p1 p2 = some Vf) : WG p l e R s m args below meth c D ca b 5 (QG D ca b none T Vf below args s 0 0) 0 0 T V 0 [(0, rv b (some this)), (1, .int p1), (2, .int p2)] [] := by
  unfold Re_join at h
  refine g_iload_n (pc := 0) G dX4_join_0 1 rfl ?_
  refine g_if_lt (pc := 1) G 10 dX4_join_1 (by decide) (fun c1 => ?_) (fun c1 => ?_)
  · rw [if_pos c1] at h
    cases h
    exact g_vret (pc := 10) G dX4_join_10
  · rw [if_neg c1] at h
    refine g_iload_n (pc := 4) G dX4_join_4 2 rfl ?_
    refine g_bipush (pc := 5) G (v := 16) dX4_join_5 (by decide) ?_
    refine g_icmp_le (pc := 7) G 11 dX4_join_7 (by decide) (fun c2 => ?_) (fun c2 => ?_)
    · rw [if_pos c2] at h
      refine g_iconst (pc := 11) G (v := 1) dX4_join_11 (by decide) ?_
      refine g_istore_n (L' := [(3, .int 1), (0, rv b (some this)), (1, .int p1), (2, .int p2)]) (pc := 12) G dX4_join_12 (by decide) rfl ?_
      have LP7 : ∀ (n3 : Nat) (V5 : Vx) (v4 : Int32), Re_join_L13 T this p1 p2 n3 V5 v4 = some Vf → WG p l e R s m args below meth c D ca b 5 (QG D ca b none T Vf below args s 0 0) 0 0 T V5 13 [(0, rv b (some this)), (1, .int p1), (2, .int p2), (3, .int v4)] [] := by
        intro n3
        induction n3 with
        | zero =>
          intro V5 v4 h
          cases h
        | succ n3 ih6 =>
          intro V5 v4 h
          rw [Re_join_L13] at h
          refine g_iload_n (pc := 13) G dX4_join_13 3 rfl ?_
          refine g_bipush (pc := 14) G (v := 9) dX4_join_14 (by decide) ?_
          refine g_icmp_gt (pc := 16) G 125 dX4_join_16 (by decide) (fun c8 => ?_) (fun c8 => ?_)
          · rw [if_pos c8] at h
            cases h
            exact g_vret (pc := 125) G dX4_join_125
          · rw [if_neg c8] at h
            refine g_iload_n (pc := 19) G dX4_join_19 1 rfl ?_
            refine g_iload_n (pc := 20) G dX4_join_20 3 rfl ?_
            refine g_iadd (pc := 21) G dX4_join_21 ?_
            refine g_iload_n (pc := 22) G dX4_join_22 2 rfl ?_
            refine g_icmp_gt (pc := 23) G 125 dX4_join_23 (by decide) (fun c9 => ?_) (fun c9 => ?_)
            · rw [if_pos c9] at h
              cases h
              exact g_vret (pc := 125) G dX4_join_125
            · rw [if_neg c9] at h
              refine g_aload_n (pc := 26) G dX4_join_26 0 rfl ?_
              obtain ⟨r10, e11, h⟩ := bd_e h
              obtain ⟨f12, k13⟩ := ck_e e11
              refine g_getR (pc := 27) G ci_3 (uw_3 G.2.2.2.2.1) (k := 0) (by decide) rfl rfl k_this (q162 G.2.2.2.2.1) dX4_join_27 f12 ?_
              refine g_iload_n (pc := 30) G dX4_join_30 3 rfl ?_
              obtain ⟨b14, h⟩ := gd_e h
              refine g_iald (pc := 31) G k13 b14 dX4_join_31 ?_
              obtain ⟨x15, e16, h⟩ := lt_e h
              rw [e16]
              refine g_istore (L' := [(4, .int x15), (0, rv b (some this)), (1, .int p1), (2, .int p2), (3, .int v4)]) (pc := 32) G dX4_join_32 (by decide) rfl ?_
              refine g_iload (pc := 34) G dX4_join_34 0 rfl ?_
              refine g_if_ne (pc := 36) G 42 dX4_join_36 (by decide) (fun c17 => ?_) (fun c17 => ?_)
              · rw [if_neg c17] at h
                refine g_aload_n (pc := 42) G dX4_join_42 1 rfl ?_
                obtain ⟨r18, e19, h⟩ := bd_e h
                obtain ⟨f20, k21⟩ := ck_e e19
                refine g_getR (pc := 43) G ci_3 (uw_3 G.2.2.2.2.1) (k := 1) (by decide) rfl rfl k_this (q163 G.2.2.2.2.1) dX4_join_43 f20 ?_
                refine g_iload_n (pc := 46) G dX4_join_46 2 rfl ?_
                refine g_dup2 (pc := 47) G dX4_join_47 rfl rfl ?_
                obtain ⟨b22, h⟩ := gd_e h
                refine g_lald (pc := 48) G k21 b22 dX4_join_48 ?_
                refine g_iload (pc := 49) G dX4_join_49 0 rfl ?_
                obtain ⟨r24, e23, h⟩ := bd_e h
                refine g_callS (pc := 51) (As := [.int x15]) (rest := [.long (aL V5 r18 p1.toNatClampNeg), .int p1, rv b (some r18)]) (st2 := [.int r24, .long (aL V5 r18 p1.toNatClampNeg), .int p1, rv b (some r18)]) G (c_Ji_bitCount l D ca b  e23) (mb_Ji_bitCount G.2.2.2.2.1) (q704 G.2.2.2.2.1) (q703 G.2.2.2.2.1) rfl rfl (Nat.le_of_ble_eq_true rfl) ⟨Nat.le_trans (Nat.le_of_ble_eq_true rfl) hR.1, Nat.le_trans (Nat.le_of_ble_eq_true rfl) hR.2⟩ ⟨Nat.zero_le _, Nat.zero_le _⟩ rfl rfl dX4_join_51 ?_
                refine g_i2l (pc := 54) G dX4_join_54 ?_
                refine g_aload_n (pc := 55) G dX4_join_55 1 rfl ?_
                obtain ⟨r25, e26, h⟩ := bd_e h
                obtain ⟨f27, k28⟩ := ck_e e26
                refine g_getR (pc := 56) G ci_3 (uw_3 G.2.2.2.2.1) (k := 1) (by decide) rfl rfl k_this (q163 G.2.2.2.2.1) dX4_join_56 f27 ?_
                refine g_iload_n (pc := 59) G dX4_join_59 2 rfl ?_
                refine g_iload_n (pc := 60) G dX4_join_60 4 rfl ?_
                refine g_iadd (pc := 61) G dX4_join_61 ?_
                obtain ⟨b29, h⟩ := gd_e h
                refine g_lald (pc := 62) G k28 b29 dX4_join_62 ?_
                refine g_lmul (pc := 63) G dX4_join_63 ?_
                refine g_ladd (pc := 64) G dX4_join_64 ?_
                obtain ⟨b30, h⟩ := gd_e h
                obtain ⟨V31, e32, h⟩ := lt_e h
                refine g_last (pc := 65) G k21 b30 e32 dX4_join_65 ?_
                refine g_aload_n (pc := 66) G dX4_join_66 1 rfl ?_
                obtain ⟨r33, e34, h⟩ := bd_e h
                obtain ⟨f35, k36⟩ := ck_e e34
                refine g_getR (pc := 67) G ci_3 (uw_3 G.2.2.2.2.1) (k := 2) (by decide) rfl rfl k_this (q164 G.2.2.2.2.1) dX4_join_67 f35 ?_
                refine g_iload_n (pc := 70) G dX4_join_70 2 rfl ?_
                refine g_iload_n (pc := 71) G dX4_join_71 4 rfl ?_
                refine g_iadd (pc := 72) G dX4_join_72 ?_
                obtain ⟨b37, h⟩ := gd_e h
                refine g_iald (pc := 73) G k36 b37 dX4_join_73 ?_
                refine g_iconst (pc := 74) G (v := 1) dX4_join_74 (by decide) ?_
                refine g_iadd (pc := 75) G dX4_join_75 ?_
                refine g_aload_n (pc := 76) G dX4_join_76 1 rfl ?_
                obtain ⟨r38, e39, h⟩ := bd_e h
                obtain ⟨f40, k41⟩ := ck_e e39
                refine g_getR (pc := 77) G ci_3 (uw_3 G.2.2.2.2.1) (k := 2) (by decide) rfl rfl k_this (q164 G.2.2.2.2.1) dX4_join_77 f40 ?_
                refine g_iload_n (pc := 80) G dX4_join_80 2 rfl ?_
                obtain ⟨b42, h⟩ := gd_e h
                refine g_iald (pc := 81) G k41 b42 dX4_join_81 ?_
                refine g_icmp_ge (pc := 82) G 119 dX4_join_82 (by decide) (fun c43 => ?_) (fun c43 => ?_)
                · rw [if_pos c43] at h
                  refine g_iinc (v := v4 + 1) (L' := [(3, .int (v4 + 1)), (4, .int x15), (0, rv b (some this)), (1, .int p1), (2, .int p2)]) (pc := 119) G dX4_join_119 4 rfl rfl (by decide) rfl ?_
                  refine g_goto (pc := 122) G 13 dX4_join_122 (by decide) ?_
                  exact g_sub [2, 3, 4, 0] rfl (ih6 _ _ h)
                · rw [if_neg c43] at h
                  refine g_aload_n (pc := 85) G dX4_join_85 1 rfl ?_
                  obtain ⟨r44, e45, h⟩ := bd_e h
                  obtain ⟨f46, k47⟩ := ck_e e45
                  refine g_getR (pc := 86) G ci_3 (uw_3 G.2.2.2.2.1) (k := 2) (by decide) rfl rfl k_this (q164 G.2.2.2.2.1) dX4_join_86 f46 ?_
                  refine g_iload_n (pc := 89) G dX4_join_89 2 rfl ?_
                  refine g_aload_n (pc := 90) G dX4_join_90 1 rfl ?_
                  obtain ⟨r48, e49, h⟩ := bd_e h
                  obtain ⟨f50, k51⟩ := ck_e e49
                  refine g_getR (pc := 91) G ci_3 (uw_3 G.2.2.2.2.1) (k := 2) (by decide) rfl rfl k_this (q164 G.2.2.2.2.1) dX4_join_91 f50 ?_
                  refine g_iload_n (pc := 94) G dX4_join_94 2 rfl ?_
                  refine g_iload_n (pc := 95) G dX4_join_95 4 rfl ?_
                  refine g_iadd (pc := 96) G dX4_join_96 ?_
                  obtain ⟨b52, h⟩ := gd_e h
                  refine g_iald (pc := 97) G k51 b52 dX4_join_97 ?_
                  refine g_iconst (pc := 98) G (v := 1) dX4_join_98 (by decide) ?_
                  refine g_iadd (pc := 99) G dX4_join_99 ?_
                  obtain ⟨b53, h⟩ := gd_e h
                  obtain ⟨V54, e55, h⟩ := lt_e h
                  refine g_iast (pc := 100) G k47 b53 e55 dX4_join_100 ?_
                  refine g_aload_n (pc := 101) G dX4_join_101 1 rfl ?_
                  obtain ⟨r56, e57, h⟩ := bd_e h
                  obtain ⟨f58, k59⟩ := ck_e e57
                  refine g_getR (pc := 102) G ci_3 (uw_3 G.2.2.2.2.1) (k := 3) (by decide) rfl rfl k_this (q165 G.2.2.2.2.1) dX4_join_102 f58 ?_
                  refine g_iload_n (pc := 105) G dX4_join_105 2 rfl ?_
                  refine g_iload_n (pc := 106) G dX4_join_106 4 rfl ?_
                  obtain ⟨b60, h⟩ := gd_e h
                  obtain ⟨V61, e62, h⟩ := lt_e h
                  refine g_iast (pc := 107) G k59 b60 e62 dX4_join_107 ?_
                  refine g_aload_n (pc := 108) G dX4_join_108 1 rfl ?_
                  obtain ⟨r63, e64, h⟩ := bd_e h
                  obtain ⟨f65, k66⟩ := ck_e e64
                  refine g_getR (pc := 109) G ci_3 (uw_3 G.2.2.2.2.1) (k := 4) (by decide) rfl rfl k_this (q166 G.2.2.2.2.1) dX4_join_109 f65 ?_
                  refine g_iload_n (pc := 112) G dX4_join_112 2 rfl ?_
                  refine g_iload (pc := 113) G dX4_join_113 0 rfl ?_
                  obtain ⟨r68, e67, h⟩ := bd_e h
                  refine g_callS (pc := 115) (As := [.int x15]) (rest := [.int p1, rv b (some r63)]) (st2 := [.int r68, .int p1, rv b (some r63)]) G (c_Re_lowestBit l D ca b  e67) (mb_Re_lowestBit G.2.2.2.2.1) (q710 G.2.2.2.2.1) (q709 G.2.2.2.2.1) rfl rfl (Nat.le_of_ble_eq_true rfl) ⟨Nat.le_trans (Nat.le_of_ble_eq_true rfl) hR.1, Nat.le_trans (Nat.le_of_ble_eq_true rfl) hR.2⟩ ⟨Nat.zero_le _, Nat.zero_le _⟩ rfl rfl dX4_join_115 ?_
                  obtain ⟨b69, h⟩ := gd_e h
                  obtain ⟨V70, e71, h⟩ := lt_e h
                  refine g_iast (pc := 118) G k66 b69 e71 dX4_join_118 ?_
                  refine g_iinc (v := v4 + 1) (L' := [(3, .int (v4 + 1)), (4, .int x15), (0, rv b (some this)), (1, .int p1), (2, .int p2)]) (pc := 119) G dX4_join_119 4 rfl rfl (by decide) rfl ?_
                  refine g_goto (pc := 122) G 13 dX4_join_122 (by decide) ?_
                  exact g_sub [2, 3, 4, 0] rfl (ih6 _ _ h)
              · rw [if_pos c17] at h
                refine g_goto (pc := 39) G 119 dX4_join_39 (by decide) ?_
                refine g_iinc (v := v4 + 1) (L' := [(3, .int (v4 + 1)), (4, .int x15), (0, rv b (some this)), (1, .int p1), (2, .int p2)]) (pc := 119) G dX4_join_119 4 rfl rfl (by decide) rfl ?_
                refine g_goto (pc := 122) G 13 dX4_join_122 (by decide) ?_
                exact g_sub [2, 3, 4, 0] rfl (ih6 _ _ h)
      exact g_sub [1, 2, 3, 0] rfl (LP7 _ _ _ h)
    · rw [if_neg c2] at h
      cases h
      exact g_vret (pc := 10) G dX4_join_10
theorem c_Re_join (l : Launch) (D : va_G) (ca : Nat → ClassId) (b : Nat) {T : Tx} {V : Vx} {this : Nat} {p1 : Int32} {p2 : Int32}  {Vf : Vx} (k_this : kd T this = 3) (h : Re_join T V this p1 p2 = some Vf) : MG l yX4_join cX4_join 5 (Option.none : Option Jvm.ClassFile.FieldType) 1 21 0 0 D ca b [rv b (some this), .int p1, .int p2] T V none T Vf :=
  MG.ofWG (L := [(0, rv b (some this)), (1, .int p1), (2, .int p2)]) (by decide +kernel) rfl (Nat.le_of_ble_eq_true rfl) (fun _ _ _ _ _ _ _ G _ => w_Re_join G ⟨Nat.le_refl _, Nat.le_refl _⟩ k_this h)
set_option maxHeartbeats 4000000 in
set_option maxRecDepth 100000 in
theorem w_Re_plan {p : Program} {l : Launch} {e : Env} {R : Room} {s : State} {m : MethodId} {args : Array Value} {below : List Frame} {meth : Method} {c : Code} {D : va_G} {ca : Nat → ClassId} {b : Nat} {T : Tx} {V : Vx} (G : GX p s m meth c cX4_plan 5 (Option.none : Option Jvm.ClassFile.FieldType) RX4 "plan" D ca b) (hR : 4 ≤ R.frames ∧ 101 ≤ R.locals) {this : Nat} {p1 : Nat} {p2 : Nat}  {Vf : Vx} (k_this : kd T this = 3) (k_p1 : kd T p1 = 2) (k_p2 : kd T p2 = 4) (h : Re_plan T V this p1 p2 = some Vf) : WG p l e R s m args below meth c D ca b 5 (QG D ca b none T Vf below args s 0 0) 0 0 T V 0 [(0, rv b (some this)), (1, rv b (some p1)), (2, rv b (some p2))] [] := by
  unfold Re_plan at h
  refine g_aload_n (pc := 0) G dX4_plan_0 2 rfl ?_
  obtain ⟨r2, e1, h⟩ := bd_e h
  refine g_callV (pc := 1) (As := []) (rest := []) (st2 := [.int r2]) G (c_Ro_size l D ca b k_p2 e1) (mb_Ro_size G.2.2.2.2.1) (q508 G.2.2.2.2.1) (q509 G.2.2.2.2.1) (q693 G.2.2.2.2.1) ci_4 k_p2 rfl rfl (Nat.le_of_ble_eq_true rfl) ⟨Nat.le_trans (Nat.le_of_ble_eq_true rfl) hR.1, Nat.le_trans (Nat.le_of_ble_eq_true rfl) hR.2⟩ ⟨Nat.zero_le _, Nat.zero_le _⟩ rfl rfl dX4_plan_1 ?_
  refine g_bipush (pc := 4) G (v := 16) dX4_plan_4 (by decide) ?_
  refine g_mmin (pc := 6) G (q694 G.2.2.2.2.1) (q695 G.2.2.2.2.1) (q55 G.2.2.2.2.1) (q_mmin G.2.2.2.2.1) ⟨Nat.le_trans (Nat.le_of_ble_eq_true rfl) hR.1, Nat.le_trans (Nat.le_of_ble_eq_true rfl) hR.2⟩ ⟨Nat.zero_le _, Nat.zero_le _⟩ dX4_plan_6 ?_
  obtain ⟨x3, e4, h⟩ := lt_e h
  rw [e4]
  refine g_istore_n (L' := [(3, .int x3), (0, rv b (some this)), (1, rv b (some p1)), (2, rv b (some p2))]) (pc := 9) G dX4_plan_9 (by decide) rfl ?_
  refine g_aload_n (pc := 10) G dX4_plan_10 1 rfl ?_
  obtain ⟨r5, e6, h⟩ := bd_e h
  obtain ⟨f7, k8⟩ := ck_e e6
  refine g_getR (pc := 11) G ci_3 (uw_3 G.2.2.2.2.1) (k := 1) (by decide) rfl rfl k_this (q163 G.2.2.2.2.1) dX4_plan_11 f7 ?_
  refine g_lconst (pc := 14) G (v := 0) dX4_plan_14 (by decide) ?_
  obtain ⟨V10, e9, h⟩ := bd_e h
  refine g_callS (pc := 15) (As := [rv b (some r5), .long 0]) (rest := []) (st2 := []) G (c_Ja_fillL l D ca b k8 e9) (mb_Ja_fillL G.2.2.2.2.1) (q671 G.2.2.2.2.1) (q697 G.2.2.2.2.1) rfl rfl (Nat.le_of_ble_eq_true rfl) ⟨Nat.le_trans (Nat.le_of_ble_eq_true rfl) hR.1, Nat.le_trans (Nat.le_of_ble_eq_true rfl) hR.2⟩ ⟨Nat.zero_le _, Nat.zero_le _⟩ rfl rfl dX4_plan_15 ?_
  refine g_aload_n (pc := 18) G dX4_plan_18 1 rfl ?_
  obtain ⟨r11, e12, h⟩ := bd_e h
  obtain ⟨f13, k14⟩ := ck_e e12
  refine g_getR (pc := 19) G ci_3 (uw_3 G.2.2.2.2.1) (k := 2) (by decide) rfl rfl k_this (q164 G.2.2.2.2.1) dX4_plan_19 f13 ?_
  refine g_sipush (pc := 22) G (v := 1000) dX4_plan_22 (by decide) ?_
  obtain ⟨V16, e15, h⟩ := bd_e h
  refine g_callS (pc := 25) (As := [rv b (some r11), .int 1000]) (rest := []) (st2 := []) G (c_Ja_fillI l D ca b k14 e15) (mb_Ja_fillI G.2.2.2.2.1) (q607 G.2.2.2.2.1) (q606 G.2.2.2.2.1) rfl rfl (Nat.le_of_ble_eq_true rfl) ⟨Nat.le_trans (Nat.le_of_ble_eq_true rfl) hR.1, Nat.le_trans (Nat.le_of_ble_eq_true rfl) hR.2⟩ ⟨Nat.zero_le _, Nat.zero_le _⟩ rfl rfl dX4_plan_25 ?_
  refine g_iload_n (pc := 28) G dX4_plan_28 0 rfl ?_
  refine g_if_ge (pc := 29) G 33 dX4_plan_29 (by decide) (fun c17 => ?_) (fun c17 => ?_)
  · rw [if_pos c17] at h
    refine g_aload_n (pc := 33) G dX4_plan_33 1 rfl ?_
    obtain ⟨r18, e19, h⟩ := bd_e h
    obtain ⟨f20, k21⟩ := ck_e e19
    refine g_getR (pc := 34) G ci_3 (uw_3 G.2.2.2.2.1) (k := 1) (by decide) rfl rfl k_this (q163 G.2.2.2.2.1) dX4_plan_34 f20 ?_
    refine g_iload_n (pc := 37) G dX4_plan_37 0 rfl ?_
    refine g_lconst (pc := 38) G (v := 1) dX4_plan_38 (by decide) ?_
    obtain ⟨b22, h⟩ := gd_e h
    obtain ⟨V23, e24, h⟩ := lt_e h
    refine g_last (pc := 39) G k21 b22 e24 dX4_plan_39 ?_
    refine g_aload_n (pc := 40) G dX4_plan_40 1 rfl ?_
    obtain ⟨r25, e26, h⟩ := bd_e h
    obtain ⟨f27, k28⟩ := ck_e e26
    refine g_getR (pc := 41) G ci_3 (uw_3 G.2.2.2.2.1) (k := 2) (by decide) rfl rfl k_this (q164 G.2.2.2.2.1) dX4_plan_41 f27 ?_
    refine g_iload_n (pc := 44) G dX4_plan_44 0 rfl ?_
    refine g_iconst (pc := 45) G (v := 0) dX4_plan_45 (by decide) ?_
    obtain ⟨b29, h⟩ := gd_e h
    obtain ⟨V30, e31, h⟩ := lt_e h
    refine g_iast (pc := 46) G k28 b29 e31 dX4_plan_46 ?_
    refine g_iload_n (pc := 47) G dX4_plan_47 0 rfl ?_
    refine g_iconst (pc := 48) G (v := 1) dX4_plan_48 (by decide) ?_
    refine g_isub (pc := 49) G dX4_plan_49 ?_
    obtain ⟨x32, e33, h⟩ := lt_e h
    rw [e33]
    refine g_istore (L' := [(4, .int x32), (3, .int x3), (0, rv b (some this)), (1, rv b (some p1)), (2, rv b (some p2))]) (pc := 50) G dX4_plan_50 (by decide) rfl ?_
    have LP38 : ∀ (n34 : Nat) (V36 : Vx) (v35 : Int32), Re_plan_L52 T this p1 p2 x3 n34 V36 v35 = some Vf → WG p l e R s m args below meth c D ca b 5 (QG D ca b none T Vf below args s 0 0) 0 0 T V36 52 [(0, rv b (some this)), (1, rv b (some p1)), (2, rv b (some p2)), (3, .int x3), (4, .int v35)] [] := by
      intro n34
      induction n34 with
      | zero =>
        intro V36 v35 h
        cases h
      | succ n34 ih37 =>
        intro V36 v35 h
        rw [Re_plan_L52] at h
        refine g_iload (pc := 52) G dX4_plan_52 4 rfl ?_
        refine g_if_lt (pc := 54) G 78 dX4_plan_54 (by decide) (fun c39 => ?_) (fun c39 => ?_)
        · rw [if_pos c39] at h
          cases h
          exact g_vret (pc := 78) G dX4_plan_78
        · rw [if_neg c39] at h
          refine g_aload_n (pc := 57) G dX4_plan_57 0 rfl ?_
          refine g_aload_n (pc := 58) G dX4_plan_58 1 rfl ?_
          refine g_aload_n (pc := 59) G dX4_plan_59 2 rfl ?_
          refine g_iload (pc := 60) G dX4_plan_60 4 rfl ?_
          obtain ⟨V41, e40, h⟩ := bd_e h
          refine g_callV (pc := 62) (As := [rv b (some p1), rv b (some p2), .int v35]) (rest := []) (st2 := []) G (c_Re_look l D ca b k_this k_p1 k_p2 e40) (mb_Re_look G.2.2.2.2.1) (q603 G.2.2.2.2.1) (q604 G.2.2.2.2.1) (q698 G.2.2.2.2.1) ci_3 k_this rfl rfl (Nat.le_of_ble_eq_true rfl) ⟨Nat.le_trans (Nat.le_of_ble_eq_true rfl) hR.1, Nat.le_trans (Nat.le_of_ble_eq_true rfl) hR.2⟩ ⟨Nat.zero_le _, Nat.zero_le _⟩ rfl rfl dX4_plan_62 ?_
          refine g_aload_n (pc := 65) G dX4_plan_65 0 rfl ?_
          refine g_iload (pc := 66) G dX4_plan_66 4 rfl ?_
          refine g_iload_n (pc := 68) G dX4_plan_68 3 rfl ?_
          obtain ⟨V43, e42, h⟩ := bd_e h
          refine g_callV (pc := 69) (As := [.int v35, .int x3]) (rest := []) (st2 := []) G (c_Re_join l D ca b k_this e42) (mb_Re_join G.2.2.2.2.1) (q701 G.2.2.2.2.1) (q10 G.2.2.2.2.1) (q699 G.2.2.2.2.1) ci_3 k_this rfl rfl (Nat.le_of_ble_eq_true rfl) ⟨Nat.le_trans (Nat.le_of_ble_eq_true rfl) hR.1, Nat.le_trans (Nat.le_of_ble_eq_true rfl) hR.2⟩ ⟨Nat.zero_le _, Nat.zero_le _⟩ rfl rfl dX4_plan_69 ?_
          refine g_iinc (v := v35 + (-1)) (L' := [(4, .int (v35 + (-1))), (0, rv b (some this)), (1, rv b (some p1)), (2, rv b (some p2)), (3, .int x3)]) (pc := 72) G dX4_plan_72 4 rfl rfl (by decide) rfl ?_
          refine g_goto (pc := 75) G 52 dX4_plan_75 (by decide) ?_
          exact g_sub [1, 2, 3, 4, 0] rfl (ih37 _ _ h)
    exact g_sub [2, 3, 4, 1, 0] rfl (LP38 _ _ _ h)
  · rw [if_neg c17] at h
    cases h
    exact g_vret (pc := 32) G dX4_plan_32
theorem c_Re_plan (l : Launch) (D : va_G) (ca : Nat → ClassId) (b : Nat) {T : Tx} {V : Vx} {this : Nat} {p1 : Nat} {p2 : Nat}  {Vf : Vx} (k_this : kd T this = 3) (k_p1 : kd T p1 = 2) (k_p2 : kd T p2 = 4) (h : Re_plan T V this p1 p2 = some Vf) : MG l yX4_plan cX4_plan 5 (Option.none : Option Jvm.ClassFile.FieldType) 4 101 0 0 D ca b [rv b (some this), rv b (some p1), rv b (some p2)] T V none T Vf :=
  MG.ofWG (L := [(0, rv b (some this)), (1, rv b (some p1)), (2, rv b (some p2))]) (by decide +kernel) rfl (Nat.le_of_ble_eq_true rfl) (fun _ _ _ _ _ _ _ G _ => w_Re_plan G ⟨Nat.le_refl _, Nat.le_refl _⟩ k_this k_p1 k_p2 h)
set_option maxHeartbeats 4000000 in
set_option maxRecDepth 100000 in
theorem w_Re_waysInAll {p : Program} {l : Launch} {e : Env} {R : Room} {s : State} {m : MethodId} {args : Array Value} {below : List Frame} {meth : Method} {c : Code} {D : va_G} {ca : Nat → ClassId} {b : Nat} {T : Tx} {V : Vx} (G : GX p s m meth c cX4_waysInAll 1 (Option.some Jvm.ClassFile.FieldType.long) RX4 "waysInAll" D ca b) (hR : 0 ≤ R.frames ∧ 0 ≤ R.locals) {this : Nat} {rr : Int64}  (k_this : kd T this = 3) (h : Re_waysInAll T V this = some rr) : WG p l e R s m args below meth c D ca b 1 (QG D ca b (some (.long rr)) T V below args s 0 0) 0 0 T V 0 [(0, rv b (some this))] [] := by
  unfold Re_waysInAll at h
  refine g_aload_n (pc := 0) G dX4_waysInAll_0 0 rfl ?_
  obtain ⟨r1, e2, h⟩ := bd_e h
  obtain ⟨f3, k4⟩ := ck_e e2
  refine g_getR (pc := 1) G ci_3 (uw_3 G.2.2.2.2.1) (k := 1) (by decide) rfl rfl k_this (q163 G.2.2.2.2.1) dX4_waysInAll_1 f3 ?_
  refine g_iconst (pc := 4) G (v := 0) dX4_waysInAll_4 (by decide) ?_
  obtain ⟨b5, h⟩ := gd_e h
  refine g_lald (pc := 5) G k4 b5 dX4_waysInAll_5 ?_
  cases h
  exact g_lret (pc := 6) G dX4_waysInAll_6
theorem c_Re_waysInAll (l : Launch) (D : va_G) (ca : Nat → ClassId) (b : Nat) {T : Tx} {V : Vx} {this : Nat} {rr : Int64}  (k_this : kd T this = 3) (h : Re_waysInAll T V this = some rr) : MG l yX4_waysInAll cX4_waysInAll 1 (Option.some Jvm.ClassFile.FieldType.long) 0 0 0 0 D ca b [rv b (some this)] T V (some (.long rr)) T V :=
  MG.ofWG (L := [(0, rv b (some this))]) (by decide +kernel) rfl (Nat.le_of_ble_eq_true rfl) (fun _ _ _ _ _ _ _ G _ => w_Re_waysInAll G ⟨Nat.le_refl _, Nat.le_refl _⟩ k_this h)
set_option maxHeartbeats 4000000 in
set_option maxRecDepth 100000 in
theorem w_Re_fewestWords {p : Program} {l : Launch} {e : Env} {R : Room} {s : State} {m : MethodId} {args : Array Value} {below : List Frame} {meth : Method} {c : Code} {D : va_G} {ca : Nat → ClassId} {b : Nat} {T : Tx} {V : Vx} (G : GX p s m meth c cX4_fewestWords 1 (Option.some Jvm.ClassFile.FieldType.int) RX4 "fewestWords" D ca b) (hR : 0 ≤ R.frames ∧ 0 ≤ R.locals) {this : Nat} {rr : Int32}  (k_this : kd T this = 3) (h : Re_fewestWords T V this = some rr) : WG p l e R s m args below meth c D ca b 1 (QG D ca b (some (.int rr)) T V below args s 0 0) 0 0 T V 0 [(0, rv b (some this))] [] := by
  unfold Re_fewestWords at h
  refine g_aload_n (pc := 0) G dX4_fewestWords_0 0 rfl ?_
  obtain ⟨r1, e2, h⟩ := bd_e h
  obtain ⟨f3, k4⟩ := ck_e e2
  refine g_getR (pc := 1) G ci_3 (uw_3 G.2.2.2.2.1) (k := 2) (by decide) rfl rfl k_this (q164 G.2.2.2.2.1) dX4_fewestWords_1 f3 ?_
  refine g_iconst (pc := 4) G (v := 0) dX4_fewestWords_4 (by decide) ?_
  obtain ⟨b5, h⟩ := gd_e h
  refine g_iald (pc := 5) G k4 b5 dX4_fewestWords_5 ?_
  cases h
  exact g_iret (pc := 6) G dX4_fewestWords_6
theorem c_Re_fewestWords (l : Launch) (D : va_G) (ca : Nat → ClassId) (b : Nat) {T : Tx} {V : Vx} {this : Nat} {rr : Int32}  (k_this : kd T this = 3) (h : Re_fewestWords T V this = some rr) : MG l yX4_fewestWords cX4_fewestWords 1 (Option.some Jvm.ClassFile.FieldType.int) 0 0 0 0 D ca b [rv b (some this)] T V (some (.int rr)) T V :=
  MG.ofWG (L := [(0, rv b (some this))]) (by decide +kernel) rfl (Nat.le_of_ble_eq_true rfl) (fun _ _ _ _ _ _ _ G _ => w_Re_fewestWords G ⟨Nat.le_refl _, Nat.le_refl _⟩ k_this h)
set_option maxHeartbeats 4000000 in
set_option maxRecDepth 100000 in
theorem w_Re_startOf {p : Program} {l : Launch} {e : Env} {R : Room} {s : State} {m : MethodId} {args : Array Value} {below : List Frame} {meth : Method} {c : Code} {D : va_G} {ca : Nat → ClassId} {b : Nat} {T : Tx} {V : Vx} (G : GX p s m meth c cX4_startOf 4 (Option.some Jvm.ClassFile.FieldType.int) RX4 "startOf" D ca b) (hR : 0 ≤ R.frames ∧ 0 ≤ R.locals) {this : Nat} {p1 : Int32} {rr : Int32}  (k_this : kd T this = 3) (h : Re_startOf T V this p1 = some rr) : WG p l e R s m args below meth c D ca b 4 (QG D ca b (some (.int rr)) T V below args s 0 0) 0 0 T V 0 [(0, rv b (some this)), (1, .int p1)] [] := by
  unfold Re_startOf at h
  refine g_aload_n (pc := 0) G dX4_startOf_0 0 rfl ?_
  obtain ⟨r1, e2, h⟩ := bd_e h
  obtain ⟨f3, k4⟩ := ck_e e2
  refine g_getR (pc := 1) G ci_3 (uw_3 G.2.2.2.2.1) (k := 2) (by decide) rfl rfl k_this (q164 G.2.2.2.2.1) dX4_startOf_1 f3 ?_
  refine g_iconst (pc := 4) G (v := 0) dX4_startOf_4 (by decide) ?_
  obtain ⟨b5, h⟩ := gd_e h
  refine g_iald (pc := 5) G k4 b5 dX4_startOf_5 ?_
  refine g_sipush (pc := 6) G (v := 1000) dX4_startOf_6 (by decide) ?_
  refine g_icmp_ge (pc := 9) G 26 dX4_startOf_9 (by decide) (fun c6 => ?_) (fun c6 => ?_)
  · rw [if_pos c6] at h
    refine g_bipush (pc := 26) G (v := (-4)) dX4_startOf_26 (by decide) ?_
    cases h
    exact g_iret (pc := 28) G dX4_startOf_28
  · rw [if_neg c6] at h
    refine g_iload_n (pc := 12) G dX4_startOf_12 1 rfl ?_
    refine g_if_lt (pc := 13) G 26 dX4_startOf_13 (by decide) (fun c7 => ?_) (fun c7 => ?_)
    · rw [if_pos c7] at h
      refine g_bipush (pc := 26) G (v := (-4)) dX4_startOf_26 (by decide) ?_
      cases h
      exact g_iret (pc := 28) G dX4_startOf_28
    · rw [if_neg c7] at h
      refine g_iload_n (pc := 16) G dX4_startOf_16 1 rfl ?_
      refine g_aload_n (pc := 17) G dX4_startOf_17 0 rfl ?_
      obtain ⟨r8, e9, h⟩ := bd_e h
      obtain ⟨f10, k11⟩ := ck_e e9
      refine g_getR (pc := 18) G ci_3 (uw_3 G.2.2.2.2.1) (k := 2) (by decide) rfl rfl k_this (q164 G.2.2.2.2.1) dX4_startOf_18 f10 ?_
      refine g_iconst (pc := 21) G (v := 0) dX4_startOf_21 (by decide) ?_
      obtain ⟨b12, h⟩ := gd_e h
      refine g_iald (pc := 22) G k11 b12 dX4_startOf_22 ?_
      refine g_icmp_lt (pc := 23) G 29 dX4_startOf_23 (by decide) (fun c13 => ?_) (fun c13 => ?_)
      · rw [if_pos c13] at h
        refine g_iconst (pc := 29) G (v := 0) dX4_startOf_29 (by decide) ?_
        refine g_istore_n (L' := [(2, .int 0), (0, rv b (some this)), (1, .int p1)]) (pc := 30) G dX4_startOf_30 (by decide) rfl ?_
        refine g_iconst (pc := 31) G (v := 0) dX4_startOf_31 (by decide) ?_
        refine g_istore_n (L' := [(3, .int 0), (2, .int 0), (0, rv b (some this)), (1, .int p1)]) (pc := 32) G dX4_startOf_32 (by decide) rfl ?_
        have LP18 : ∀ (n14 : Nat) (v15 : Int32) (v16 : Int32), Re_startOf_L33 T V this p1 n14 v15 v16 = some rr → WG p l e R s m args below meth c D ca b 4 (QG D ca b (some (.int rr)) T V below args s 0 0) 0 0 T V 33 [(0, rv b (some this)), (1, .int p1), (2, .int v15), (3, .int v16)] [] := by
          intro n14
          induction n14 with
          | zero =>
            intro v15 v16 h
            cases h
          | succ n14 ih17 =>
            intro v15 v16 h
            rw [Re_startOf_L33] at h
            refine g_iload_n (pc := 33) G dX4_startOf_33 3 rfl ?_
            refine g_iload_n (pc := 34) G dX4_startOf_34 1 rfl ?_
            refine g_icmp_ge (pc := 35) G 63 dX4_startOf_35 (by decide) (fun c19 => ?_) (fun c19 => ?_)
            · rw [if_pos c19] at h
              refine g_iload_n (pc := 63) G dX4_startOf_63 2 rfl ?_
              cases h
              exact g_iret (pc := 64) G dX4_startOf_64
            · rw [if_neg c19] at h
              refine g_iload_n (pc := 38) G dX4_startOf_38 2 rfl ?_
              refine g_if_lt (pc := 39) G 63 dX4_startOf_39 (by decide) (fun c20 => ?_) (fun c20 => ?_)
              · rw [if_pos c20] at h
                refine g_iload_n (pc := 63) G dX4_startOf_63 2 rfl ?_
                cases h
                exact g_iret (pc := 64) G dX4_startOf_64
              · rw [if_neg c20] at h
                refine g_iload_n (pc := 42) G dX4_startOf_42 2 rfl ?_
                refine g_bipush (pc := 43) G (v := 16) dX4_startOf_43 (by decide) ?_
                refine g_icmp_gt (pc := 45) G 63 dX4_startOf_45 (by decide) (fun c21 => ?_) (fun c21 => ?_)
                · rw [if_pos c21] at h
                  refine g_iload_n (pc := 63) G dX4_startOf_63 2 rfl ?_
                  cases h
                  exact g_iret (pc := 64) G dX4_startOf_64
                · rw [if_neg c21] at h
                  refine g_iload_n (pc := 48) G dX4_startOf_48 2 rfl ?_
                  refine g_aload_n (pc := 49) G dX4_startOf_49 0 rfl ?_
                  obtain ⟨r22, e23, h⟩ := bd_e h
                  obtain ⟨f24, k25⟩ := ck_e e23
                  refine g_getR (pc := 50) G ci_3 (uw_3 G.2.2.2.2.1) (k := 3) (by decide) rfl rfl k_this (q165 G.2.2.2.2.1) dX4_startOf_50 f24 ?_
                  refine g_iload_n (pc := 53) G dX4_startOf_53 2 rfl ?_
                  obtain ⟨b26, h⟩ := gd_e h
                  refine g_iald (pc := 54) G k25 b26 dX4_startOf_54 ?_
                  refine g_iadd (pc := 55) G dX4_startOf_55 ?_
                  obtain ⟨x27, e28, h⟩ := lt_e h
                  rw [e28]
                  refine g_istore_n (L' := [(2, .int x27), (0, rv b (some this)), (1, .int p1), (3, .int v16)]) (pc := 56) G dX4_startOf_56 (by decide) rfl ?_
                  refine g_iinc (v := v16 + 1) (L' := [(3, .int (v16 + 1)), (2, .int x27), (0, rv b (some this)), (1, .int p1)]) (pc := 57) G dX4_startOf_57 3 rfl rfl (by decide) rfl ?_
                  refine g_goto (pc := 60) G 33 dX4_startOf_60 (by decide) ?_
                  exact g_sub [2, 3, 1, 0] rfl (ih17 _ _ h)
        exact g_sub [2, 3, 1, 0] rfl (LP18 _ _ _ h)
      · rw [if_neg c13] at h
        refine g_bipush (pc := 26) G (v := (-4)) dX4_startOf_26 (by decide) ?_
        cases h
        exact g_iret (pc := 28) G dX4_startOf_28
theorem c_Re_startOf (l : Launch) (D : va_G) (ca : Nat → ClassId) (b : Nat) {T : Tx} {V : Vx} {this : Nat} {p1 : Int32} {rr : Int32}  (k_this : kd T this = 3) (h : Re_startOf T V this p1 = some rr) : MG l yX4_startOf cX4_startOf 4 (Option.some Jvm.ClassFile.FieldType.int) 0 0 0 0 D ca b [rv b (some this), .int p1] T V (some (.int rr)) T V :=
  MG.ofWG (L := [(0, rv b (some this)), (1, .int p1)]) (by decide +kernel) rfl (Nat.le_of_ble_eq_true rfl) (fun _ _ _ _ _ _ _ G _ => w_Re_startOf G ⟨Nat.le_refl _, Nat.le_refl _⟩ k_this h)
set_option maxHeartbeats 4000000 in
set_option maxRecDepth 100000 in
theorem w_Re_plannedWord {p : Program} {l : Launch} {e : Env} {R : Room} {s : State} {m : MethodId} {args : Array Value} {below : List Frame} {meth : Method} {c : Code} {D : va_G} {ca : Nat → ClassId} {b : Nat} {T : Tx} {V : Vx} (G : GX p s m meth c cX4_plannedWord 3 (Option.some Jvm.ClassFile.FieldType.int) RX4 "plannedWord" D ca b) (hR : 1 ≤ R.frames ∧ 23 ≤ R.locals) {this : Nat} {p1 : Int32} {rr : Int32}  (k_this : kd T this = 3) (h : Re_plannedWord T V this p1 = some rr) : WG p l e R s m args below meth c D ca b 3 (QG D ca b (some (.int rr)) T V below args s 0 0) 0 0 T V 0 [(0, rv b (some this)), (1, .int p1)] [] := by
  unfold Re_plannedWord at h
  refine g_aload_n (pc := 0) G dX4_plannedWord_0 0 rfl ?_
  refine g_iload_n (pc := 1) G dX4_plannedWord_1 1 rfl ?_
  obtain ⟨r2, e1, h⟩ := bd_e h
  refine g_callV (pc := 2) (As := [.int p1]) (rest := []) (st2 := [.int r2]) G (c_Re_startOf l D ca b k_this e1) (mb_Re_startOf G.2.2.2.2.1) (q730 G.2.2.2.2.1) (q11 G.2.2.2.2.1) (q728 G.2.2.2.2.1) ci_3 k_this rfl rfl (Nat.le_of_ble_eq_true rfl) ⟨Nat.le_trans (Nat.le_of_ble_eq_true rfl) hR.1, Nat.le_trans (Nat.le_of_ble_eq_true rfl) hR.2⟩ ⟨Nat.zero_le _, Nat.zero_le _⟩ rfl rfl dX4_plannedWord_2 ?_
  refine g_istore_n (L' := [(2, .int r2), (0, rv b (some this)), (1, .int p1)]) (pc := 5) G dX4_plannedWord_5 (by decide) rfl ?_
  refine g_iload_n (pc := 6) G dX4_plannedWord_6 0 rfl ?_
  refine g_if_lt (pc := 7) G 25 dX4_plannedWord_7 (by decide) (fun c3 => ?_) (fun c3 => ?_)
  · rw [if_pos c3] at h
    refine g_bipush (pc := 25) G (v := (-4)) dX4_plannedWord_25 (by decide) ?_
    cases h
    exact g_iret (pc := 27) G dX4_plannedWord_27
  · rw [if_neg c3] at h
    refine g_iload_n (pc := 10) G dX4_plannedWord_10 0 rfl ?_
    refine g_bipush (pc := 11) G (v := 16) dX4_plannedWord_11 (by decide) ?_
    refine g_icmp_gt (pc := 13) G 25 dX4_plannedWord_13 (by decide) (fun c4 => ?_) (fun c4 => ?_)
    · rw [if_pos c4] at h
      refine g_bipush (pc := 25) G (v := (-4)) dX4_plannedWord_25 (by decide) ?_
      cases h
      exact g_iret (pc := 27) G dX4_plannedWord_27
    · rw [if_neg c4] at h
      refine g_aload_n (pc := 16) G dX4_plannedWord_16 1 rfl ?_
      obtain ⟨r5, e6, h⟩ := bd_e h
      obtain ⟨f7, k8⟩ := ck_e e6
      refine g_getR (pc := 17) G ci_3 (uw_3 G.2.2.2.2.1) (k := 4) (by decide) rfl rfl k_this (q166 G.2.2.2.2.1) dX4_plannedWord_17 f7 ?_
      refine g_iload_n (pc := 20) G dX4_plannedWord_20 0 rfl ?_
      obtain ⟨b9, h⟩ := gd_e h
      refine g_iald (pc := 21) G k8 b9 dX4_plannedWord_21 ?_
      refine g_goto (pc := 22) G 27 dX4_plannedWord_22 (by decide) ?_
      cases h
      exact g_iret (pc := 27) G dX4_plannedWord_27
theorem c_Re_plannedWord (l : Launch) (D : va_G) (ca : Nat → ClassId) (b : Nat) {T : Tx} {V : Vx} {this : Nat} {p1 : Int32} {rr : Int32}  (k_this : kd T this = 3) (h : Re_plannedWord T V this p1 = some rr) : MG l yX4_plannedWord cX4_plannedWord 3 (Option.some Jvm.ClassFile.FieldType.int) 1 23 0 0 D ca b [rv b (some this), .int p1] T V (some (.int rr)) T V :=
  MG.ofWG (L := [(0, rv b (some this)), (1, .int p1)]) (by decide +kernel) rfl (Nat.le_of_ble_eq_true rfl) (fun _ _ _ _ _ _ _ G _ => w_Re_plannedWord G ⟨Nat.le_refl _, Nat.le_refl _⟩ k_this h)
set_option maxHeartbeats 4000000 in
set_option maxRecDepth 100000 in
theorem w_Re_plannedCut {p : Program} {l : Launch} {e : Env} {R : Room} {s : State} {m : MethodId} {args : Array Value} {below : List Frame} {meth : Method} {c : Code} {D : va_G} {ca : Nat → ClassId} {b : Nat} {T : Tx} {V : Vx} (G : GX p s m meth c cX4_plannedCut 3 (Option.some Jvm.ClassFile.FieldType.int) RX4 "plannedCut" D ca b) (hR : 1 ≤ R.frames ∧ 23 ≤ R.locals) {this : Nat} {p1 : Int32} {rr : Int32}  (k_this : kd T this = 3) (h : Re_plannedCut T V this p1 = some rr) : WG p l e R s m args below meth c D ca b 3 (QG D ca b (some (.int rr)) T V below args s 0 0) 0 0 T V 0 [(0, rv b (some this)), (1, .int p1)] [] := by
  unfold Re_plannedCut at h
  refine g_aload_n (pc := 0) G dX4_plannedCut_0 0 rfl ?_
  refine g_iload_n (pc := 1) G dX4_plannedCut_1 1 rfl ?_
  obtain ⟨r2, e1, h⟩ := bd_e h
  refine g_callV (pc := 2) (As := [.int p1]) (rest := []) (st2 := [.int r2]) G (c_Re_startOf l D ca b k_this e1) (mb_Re_startOf G.2.2.2.2.1) (q730 G.2.2.2.2.1) (q11 G.2.2.2.2.1) (q728 G.2.2.2.2.1) ci_3 k_this rfl rfl (Nat.le_of_ble_eq_true rfl) ⟨Nat.le_trans (Nat.le_of_ble_eq_true rfl) hR.1, Nat.le_trans (Nat.le_of_ble_eq_true rfl) hR.2⟩ ⟨Nat.zero_le _, Nat.zero_le _⟩ rfl rfl dX4_plannedCut_2 ?_
  refine g_istore_n (L' := [(2, .int r2), (0, rv b (some this)), (1, .int p1)]) (pc := 5) G dX4_plannedCut_5 (by decide) rfl ?_
  refine g_iload_n (pc := 6) G dX4_plannedCut_6 0 rfl ?_
  refine g_if_lt (pc := 7) G 25 dX4_plannedCut_7 (by decide) (fun c3 => ?_) (fun c3 => ?_)
  · rw [if_pos c3] at h
    refine g_bipush (pc := 25) G (v := (-4)) dX4_plannedCut_25 (by decide) ?_
    cases h
    exact g_iret (pc := 27) G dX4_plannedCut_27
  · rw [if_neg c3] at h
    refine g_iload_n (pc := 10) G dX4_plannedCut_10 0 rfl ?_
    refine g_bipush (pc := 11) G (v := 16) dX4_plannedCut_11 (by decide) ?_
    refine g_icmp_gt (pc := 13) G 25 dX4_plannedCut_13 (by decide) (fun c4 => ?_) (fun c4 => ?_)
    · rw [if_pos c4] at h
      refine g_bipush (pc := 25) G (v := (-4)) dX4_plannedCut_25 (by decide) ?_
      cases h
      exact g_iret (pc := 27) G dX4_plannedCut_27
    · rw [if_neg c4] at h
      refine g_aload_n (pc := 16) G dX4_plannedCut_16 1 rfl ?_
      obtain ⟨r5, e6, h⟩ := bd_e h
      obtain ⟨f7, k8⟩ := ck_e e6
      refine g_getR (pc := 17) G ci_3 (uw_3 G.2.2.2.2.1) (k := 3) (by decide) rfl rfl k_this (q165 G.2.2.2.2.1) dX4_plannedCut_17 f7 ?_
      refine g_iload_n (pc := 20) G dX4_plannedCut_20 0 rfl ?_
      obtain ⟨b9, h⟩ := gd_e h
      refine g_iald (pc := 21) G k8 b9 dX4_plannedCut_21 ?_
      refine g_goto (pc := 22) G 27 dX4_plannedCut_22 (by decide) ?_
      cases h
      exact g_iret (pc := 27) G dX4_plannedCut_27
theorem c_Re_plannedCut (l : Launch) (D : va_G) (ca : Nat → ClassId) (b : Nat) {T : Tx} {V : Vx} {this : Nat} {p1 : Int32} {rr : Int32}  (k_this : kd T this = 3) (h : Re_plannedCut T V this p1 = some rr) : MG l yX4_plannedCut cX4_plannedCut 3 (Option.some Jvm.ClassFile.FieldType.int) 1 23 0 0 D ca b [rv b (some this), .int p1] T V (some (.int rr)) T V :=
  MG.ofWG (L := [(0, rv b (some this)), (1, .int p1)]) (by decide +kernel) rfl (Nat.le_of_ble_eq_true rfl) (fun _ _ _ _ _ _ _ G _ => w_Re_plannedCut G ⟨Nat.le_refl _, Nat.le_refl _⟩ k_this h)
set_option maxHeartbeats 4000000 in
set_option maxRecDepth 100000 in
theorem w_Ro_isFull {p : Program} {l : Launch} {e : Env} {R : Room} {s : State} {m : MethodId} {args : Array Value} {below : List Frame} {meth : Method} {c : Code} {D : va_G} {ca : Nat → ClassId} {b : Nat} {T : Tx} {V : Vx} (G : GX p s m meth c cX5_isFull 1 (Option.some Jvm.ClassFile.FieldType.boolean) RX5 "isFull" D ca b) (hR : 0 ≤ R.frames ∧ 0 ≤ R.locals) {this : Nat} {rr : Int32}  (k_this : kd T this = 4) (h : Ro_isFull T V this = some rr) : WG p l e R s m args below meth c D ca b 1 (QG D ca b (some (.int rr)) T V below args s 0 0) 0 0 T V 0 [(0, rv b (some this))] [] := by
  unfold Ro_isFull at h
  refine g_aload_n (pc := 0) G dX5_isFull_0 0 rfl ?_
  refine g_getI (pc := 1) G ci_4 (uw_4 G.2.2.2.2.1) (k := 1) (by decide) rfl rfl k_this (q104 G.2.2.2.2.1) dX5_isFull_1 ?_
  refine g_aload_n (pc := 4) G dX5_isFull_4 0 rfl ?_
  obtain ⟨r1, e2, h⟩ := bd_e h
  obtain ⟨f3, k4⟩ := ck_e e2
  refine g_getR (pc := 5) G ci_4 (uw_4 G.2.2.2.2.1) (k := 0) (by decide) rfl rfl k_this (q103 G.2.2.2.2.1) dX5_isFull_5 f3 ?_
  refine g_alen (pc := 8) G (t0 := 1) k4 (by decide) rfl dX5_isFull_8 ?_
  refine g_icmp_lt (pc := 9) G 16 dX5_isFull_9 (by decide) (fun c5 => ?_) (fun c5 => ?_)
  · rw [if_pos c5] at h
    refine g_iconst (pc := 16) G (v := 0) dX5_isFull_16 (by decide) ?_
    cases h
    exact g_zret (pc := 17) G rfl dX5_isFull_17
  · rw [if_neg c5] at h
    refine g_iconst (pc := 12) G (v := 1) dX5_isFull_12 (by decide) ?_
    refine g_goto (pc := 13) G 17 dX5_isFull_13 (by decide) ?_
    cases h
    exact g_zret (pc := 17) G rfl dX5_isFull_17
theorem c_Ro_isFull (l : Launch) (D : va_G) (ca : Nat → ClassId) (b : Nat) {T : Tx} {V : Vx} {this : Nat} {rr : Int32}  (k_this : kd T this = 4) (h : Ro_isFull T V this = some rr) : MG l yX5_isFull cX5_isFull 1 (Option.some Jvm.ClassFile.FieldType.boolean) 0 0 0 0 D ca b [rv b (some this)] T V (some (.int rr)) T V :=
  MG.ofWG (L := [(0, rv b (some this))]) (by decide +kernel) rfl (Nat.le_of_ble_eq_true rfl) (fun _ _ _ _ _ _ _ G _ => w_Ro_isFull G ⟨Nat.le_refl _, Nat.le_refl _⟩ k_this h)
set_option maxHeartbeats 4000000 in
set_option maxRecDepth 100000 in
theorem w_Ro_clear {p : Program} {l : Launch} {e : Env} {R : Room} {s : State} {m : MethodId} {args : Array Value} {below : List Frame} {meth : Method} {c : Code} {D : va_G} {ca : Nat → ClassId} {b : Nat} {T : Tx} {V : Vx} (G : GX p s m meth c cX5_clear 1 (Option.none : Option Jvm.ClassFile.FieldType) RX5 "clear" D ca b) (hR : 0 ≤ R.frames ∧ 0 ≤ R.locals) {this : Nat}  {Vf : Vx} (k_this : kd T this = 4) (h : Ro_clear T V this = some Vf) : WG p l e R s m args below meth c D ca b 1 (QG D ca b none T Vf below args s 0 0) 0 0 T V 0 [(0, rv b (some this))] [] := by
  unfold Ro_clear at h
  refine g_aload_n (pc := 0) G dX5_clear_0 0 rfl ?_
  refine g_iconst (pc := 1) G (v := 0) dX5_clear_1 (by decide) ?_
  obtain ⟨V1, e2, h⟩ := lt_e h
  refine g_putI (pc := 2) G ci_4 (uw_4 G.2.2.2.2.1) (k := 1) (by decide) rfl rfl k_this rfl ⟨rfl, rfl⟩ (q104 G.2.2.2.2.1) e2 dX5_clear_2 ?_
  cases h
  exact g_vret (pc := 5) G dX5_clear_5
theorem c_Ro_clear (l : Launch) (D : va_G) (ca : Nat → ClassId) (b : Nat) {T : Tx} {V : Vx} {this : Nat}  {Vf : Vx} (k_this : kd T this = 4) (h : Ro_clear T V this = some Vf) : MG l yX5_clear cX5_clear 1 (Option.none : Option Jvm.ClassFile.FieldType) 0 0 0 0 D ca b [rv b (some this)] T V none T Vf :=
  MG.ofWG (L := [(0, rv b (some this))]) (by decide +kernel) rfl (Nat.le_of_ble_eq_true rfl) (fun _ _ _ _ _ _ _ G _ => w_Ro_clear G ⟨Nat.le_refl _, Nat.le_refl _⟩ k_this h)
set_option maxHeartbeats 4000000 in
set_option maxRecDepth 100000 in
theorem w_Ro_put {p : Program} {l : Launch} {e : Env} {R : Room} {s : State} {m : MethodId} {args : Array Value} {below : List Frame} {meth : Method} {c : Code} {D : va_G} {ca : Nat → ClassId} {b : Nat} {T : Tx} {V : Vx} (G : GX p s m meth c cX5_put 2 (Option.none : Option Jvm.ClassFile.FieldType) RX5 "put" D ca b) (hR : 0 ≤ R.frames ∧ 0 ≤ R.locals) {this : Nat} {p1 : Int32}  {Vf : Vx} (k_this : kd T this = 4) (h : Ro_put T V this p1 = some Vf) : WG p l e R s m args below meth c D ca b 2 (QG D ca b none T Vf below args s 0 0) 0 0 T V 0 [(0, rv b (some this)), (1, .int p1)] [] := by
  unfold Ro_put at h
  refine g_aload_n (pc := 0) G dX5_put_0 0 rfl ?_
  refine g_getI (pc := 1) G ci_4 (uw_4 G.2.2.2.2.1) (k := 1) (by decide) rfl rfl k_this (q104 G.2.2.2.2.1) dX5_put_1 ?_
  refine g_if_lt (pc := 4) G 39 dX5_put_4 (by decide) (fun c1 => ?_) (fun c1 => ?_)
  · rw [if_pos c1] at h
    cases h
    exact g_vret (pc := 39) G dX5_put_39
  · rw [if_neg c1] at h
    refine g_aload_n (pc := 7) G dX5_put_7 0 rfl ?_
    refine g_getI (pc := 8) G ci_4 (uw_4 G.2.2.2.2.1) (k := 1) (by decide) rfl rfl k_this (q104 G.2.2.2.2.1) dX5_put_8 ?_
    refine g_aload_n (pc := 11) G dX5_put_11 0 rfl ?_
    obtain ⟨r2, e3, h⟩ := bd_e h
    obtain ⟨f4, k5⟩ := ck_e e3
    refine g_getR (pc := 12) G ci_4 (uw_4 G.2.2.2.2.1) (k := 0) (by decide) rfl rfl k_this (q103 G.2.2.2.2.1) dX5_put_12 f4 ?_
    refine g_alen (pc := 15) G (t0 := 1) k5 (by decide) rfl dX5_put_15 ?_
    refine g_icmp_ge (pc := 16) G 39 dX5_put_16 (by decide) (fun c6 => ?_) (fun c6 => ?_)
    · rw [if_pos c6] at h
      cases h
      exact g_vret (pc := 39) G dX5_put_39
    · rw [if_neg c6] at h
      refine g_aload_n (pc := 19) G dX5_put_19 0 rfl ?_
      obtain ⟨r7, e8, h⟩ := bd_e h
      obtain ⟨f9, k10⟩ := ck_e e8
      refine g_getR (pc := 20) G ci_4 (uw_4 G.2.2.2.2.1) (k := 0) (by decide) rfl rfl k_this (q103 G.2.2.2.2.1) dX5_put_20 f9 ?_
      refine g_aload_n (pc := 23) G dX5_put_23 0 rfl ?_
      refine g_getI (pc := 24) G ci_4 (uw_4 G.2.2.2.2.1) (k := 1) (by decide) rfl rfl k_this (q104 G.2.2.2.2.1) dX5_put_24 ?_
      refine g_iload_n (pc := 27) G dX5_put_27 1 rfl ?_
      obtain ⟨b11, h⟩ := gd_e h
      obtain ⟨V12, e13, h⟩ := lt_e h
      refine g_iast (pc := 28) G k10 b11 e13 dX5_put_28 ?_
      refine g_aload_n (pc := 29) G dX5_put_29 0 rfl ?_
      refine g_dup (pc := 30) G dX5_put_30 rfl ?_
      refine g_getI (pc := 31) G ci_4 (uw_4 G.2.2.2.2.1) (k := 1) (by decide) rfl rfl k_this (q104 G.2.2.2.2.1) dX5_put_31 ?_
      refine g_iconst (pc := 34) G (v := 1) dX5_put_34 (by decide) ?_
      refine g_iadd (pc := 35) G dX5_put_35 ?_
      obtain ⟨V14, e15, h⟩ := lt_e h
      refine g_putI (pc := 36) G ci_4 (uw_4 G.2.2.2.2.1) (k := 1) (by decide) rfl rfl k_this rfl ⟨rfl, rfl⟩ (q104 G.2.2.2.2.1) e15 dX5_put_36 ?_
      cases h
      exact g_vret (pc := 39) G dX5_put_39
theorem c_Ro_put (l : Launch) (D : va_G) (ca : Nat → ClassId) (b : Nat) {T : Tx} {V : Vx} {this : Nat} {p1 : Int32}  {Vf : Vx} (k_this : kd T this = 4) (h : Ro_put T V this p1 = some Vf) : MG l yX5_put cX5_put 2 (Option.none : Option Jvm.ClassFile.FieldType) 0 0 0 0 D ca b [rv b (some this), .int p1] T V none T Vf :=
  MG.ofWG (L := [(0, rv b (some this)), (1, .int p1)]) (by decide +kernel) rfl (Nat.le_of_ble_eq_true rfl) (fun _ _ _ _ _ _ _ G _ => w_Ro_put G ⟨Nat.le_refl _, Nat.le_refl _⟩ k_this h)
set_option maxHeartbeats 4000000 in
set_option maxRecDepth 100000 in
theorem w_Ro_drop {p : Program} {l : Launch} {e : Env} {R : Room} {s : State} {m : MethodId} {args : Array Value} {below : List Frame} {meth : Method} {c : Code} {D : va_G} {ca : Nat → ClassId} {b : Nat} {T : Tx} {V : Vx} (G : GX p s m meth c cX5_drop 2 (Option.some Jvm.ClassFile.FieldType.int) RX5 "drop" D ca b) (hR : 1 ≤ R.frames ∧ 21 ≤ R.locals) {this : Nat} {rr : Int32} {Vf : Vx} (k_this : kd T this = 4) (h : Ro_drop T V this = some (rr, Vf)) : WG p l e R s m args below meth c D ca b 2 (QG D ca b (some (.int rr)) T Vf below args s 0 0) 0 0 T V 0 [(0, rv b (some this))] [] := by
  unfold Ro_drop at h
  refine g_aload_n (pc := 0) G dX5_drop_0 0 rfl ?_
  refine g_aload_n (pc := 1) G dX5_drop_1 0 rfl ?_
  refine g_getI (pc := 2) G ci_4 (uw_4 G.2.2.2.2.1) (k := 1) (by decide) rfl rfl k_this (q104 G.2.2.2.2.1) dX5_drop_2 ?_
  refine g_iconst (pc := 5) G (v := 1) dX5_drop_5 (by decide) ?_
  refine g_isub (pc := 6) G dX5_drop_6 ?_
  obtain ⟨r2, e1, h⟩ := bd_e h
  refine g_callV (pc := 7) (As := [.int ((fI V 401 this) - 1)]) (rest := []) (st2 := [.int r2]) G (c_Ro_at l D ca b k_this e1) (mb_Ro_at G.2.2.2.2.1) (q520 G.2.2.2.2.1) (q521 G.2.2.2.2.1) (q519 G.2.2.2.2.1) ci_4 k_this rfl rfl (Nat.le_of_ble_eq_true rfl) ⟨Nat.le_trans (Nat.le_of_ble_eq_true rfl) hR.1, Nat.le_trans (Nat.le_of_ble_eq_true rfl) hR.2⟩ ⟨Nat.zero_le _, Nat.zero_le _⟩ rfl rfl dX5_drop_7 ?_
  refine g_istore_n (L' := [(1, .int r2), (0, rv b (some this))]) (pc := 10) G dX5_drop_10 (by decide) rfl ?_
  refine g_iload_n (pc := 11) G dX5_drop_11 0 rfl ?_
  refine g_bipush (pc := 12) G (v := (-4)) dX5_drop_12 (by decide) ?_
  refine g_icmp_eq (pc := 14) G 27 dX5_drop_14 (by decide) (fun c3 => ?_) (fun c3 => ?_)
  · rw [if_pos c3] at h
    refine g_iload_n (pc := 27) G dX5_drop_27 0 rfl ?_
    cases h
    exact g_iret (pc := 28) G dX5_drop_28
  · rw [if_neg c3] at h
    refine g_aload_n (pc := 17) G dX5_drop_17 1 rfl ?_
    refine g_dup (pc := 18) G dX5_drop_18 rfl ?_
    refine g_getI (pc := 19) G ci_4 (uw_4 G.2.2.2.2.1) (k := 1) (by decide) rfl rfl k_this (q104 G.2.2.2.2.1) dX5_drop_19 ?_
    refine g_iconst (pc := 22) G (v := 1) dX5_drop_22 (by decide) ?_
    refine g_isub (pc := 23) G dX5_drop_23 ?_
    obtain ⟨V4, e5, h⟩ := lt_e h
    refine g_putI (pc := 24) G ci_4 (uw_4 G.2.2.2.2.1) (k := 1) (by decide) rfl rfl k_this rfl ⟨rfl, rfl⟩ (q104 G.2.2.2.2.1) e5 dX5_drop_24 ?_
    refine g_iload_n (pc := 27) G dX5_drop_27 0 rfl ?_
    cases h
    exact g_iret (pc := 28) G dX5_drop_28
theorem c_Ro_drop (l : Launch) (D : va_G) (ca : Nat → ClassId) (b : Nat) {T : Tx} {V : Vx} {this : Nat} {rr : Int32} {Vf : Vx} (k_this : kd T this = 4) (h : Ro_drop T V this = some (rr, Vf)) : MG l yX5_drop cX5_drop 2 (Option.some Jvm.ClassFile.FieldType.int) 1 21 0 0 D ca b [rv b (some this)] T V (some (.int rr)) T Vf :=
  MG.ofWG (L := [(0, rv b (some this))]) (by decide +kernel) rfl (Nat.le_of_ble_eq_true rfl) (fun _ _ _ _ _ _ _ G _ => w_Ro_drop G ⟨Nat.le_refl _, Nat.le_refl _⟩ k_this h)
set_option maxHeartbeats 4000000 in
set_option maxRecDepth 100000 in
theorem w_Ro_has {p : Program} {l : Launch} {e : Env} {R : Room} {s : State} {m : MethodId} {args : Array Value} {below : List Frame} {meth : Method} {c : Code} {D : va_G} {ca : Nat → ClassId} {b : Nat} {T : Tx} {V : Vx} (G : GX p s m meth c cX5_has 3 (Option.some Jvm.ClassFile.FieldType.boolean) RX5 "has" D ca b) (hR : 1 ≤ R.frames ∧ 21 ≤ R.locals) {this : Nat} {p1 : Int32} {rr : Int32}  (k_this : kd T this = 4) (h : Ro_has T V this p1 = some rr) : WG p l e R s m args below meth c D ca b 3 (QG D ca b (some (.int rr)) T V below args s 0 0) 0 0 T V 0 [(0, rv b (some this)), (1, .int p1)] [] := by
  unfold Ro_has at h
  refine g_iconst (pc := 0) G (v := 0) dX5_has_0 (by decide) ?_
  refine g_istore_n (L' := [(2, .int 0), (0, rv b (some this)), (1, .int p1)]) (pc := 1) G dX5_has_1 (by decide) rfl ?_
  have LP4 : ∀ (n1 : Nat) (v2 : Int32), Ro_has_L2 T V this p1 n1 v2 = some rr → WG p l e R s m args below meth c D ca b 3 (QG D ca b (some (.int rr)) T V below args s 0 0) 0 0 T V 2 [(0, rv b (some this)), (1, .int p1), (2, .int v2)] [] := by
    intro n1
    induction n1 with
    | zero =>
      intro v2 h
      cases h
    | succ n1 ih3 =>
      intro v2 h
      rw [Ro_has_L2] at h
      refine g_iload_n (pc := 2) G dX5_has_2 2 rfl ?_
      refine g_aload_n (pc := 3) G dX5_has_3 0 rfl ?_
      refine g_getI (pc := 4) G ci_4 (uw_4 G.2.2.2.2.1) (k := 1) (by decide) rfl rfl k_this (q104 G.2.2.2.2.1) dX5_has_4 ?_
      refine g_icmp_ge (pc := 7) G 27 dX5_has_7 (by decide) (fun c5 => ?_) (fun c5 => ?_)
      · rw [if_pos c5] at h
        refine g_iconst (pc := 27) G (v := 0) dX5_has_27 (by decide) ?_
        cases h
        exact g_zret (pc := 28) G rfl dX5_has_28
      · rw [if_neg c5] at h
        refine g_aload_n (pc := 10) G dX5_has_10 0 rfl ?_
        refine g_iload_n (pc := 11) G dX5_has_11 2 rfl ?_
        obtain ⟨r7, e6, h⟩ := bd_e h
        refine g_callV (pc := 12) (As := [.int v2]) (rest := []) (st2 := [.int r7]) G (c_Ro_at l D ca b k_this e6) (mb_Ro_at G.2.2.2.2.1) (q520 G.2.2.2.2.1) (q521 G.2.2.2.2.1) (q519 G.2.2.2.2.1) ci_4 k_this rfl rfl (Nat.le_of_ble_eq_true rfl) ⟨Nat.le_trans (Nat.le_of_ble_eq_true rfl) hR.1, Nat.le_trans (Nat.le_of_ble_eq_true rfl) hR.2⟩ ⟨Nat.zero_le _, Nat.zero_le _⟩ rfl rfl dX5_has_12 ?_
        refine g_iload_n (pc := 15) G dX5_has_15 1 rfl ?_
        refine g_icmp_ne (pc := 16) G 21 dX5_has_16 (by decide) (fun c8 => ?_) (fun c8 => ?_)
        · rw [if_neg c8] at h
          refine g_iinc (v := v2 + 1) (L' := [(2, .int (v2 + 1)), (0, rv b (some this)), (1, .int p1)]) (pc := 21) G dX5_has_21 2 rfl rfl (by decide) rfl ?_
          refine g_goto (pc := 24) G 2 dX5_has_24 (by decide) ?_
          exact g_sub [1, 2, 0] rfl (ih3 _ h)
        · rw [if_pos c8] at h
          refine g_iconst (pc := 19) G (v := 1) dX5_has_19 (by decide) ?_
          cases h
          exact g_zret (pc := 20) G rfl dX5_has_20
  exact g_sub [1, 2, 0] rfl (LP4 _ _ h)
theorem c_Ro_has (l : Launch) (D : va_G) (ca : Nat → ClassId) (b : Nat) {T : Tx} {V : Vx} {this : Nat} {p1 : Int32} {rr : Int32}  (k_this : kd T this = 4) (h : Ro_has T V this p1 = some rr) : MG l yX5_has cX5_has 3 (Option.some Jvm.ClassFile.FieldType.boolean) 1 21 0 0 D ca b [rv b (some this), .int p1] T V (some (.int rr)) T V :=
  MG.ofWG (L := [(0, rv b (some this)), (1, .int p1)]) (by decide +kernel) rfl (Nat.le_of_ble_eq_true rfl) (fun _ _ _ _ _ _ _ G _ => w_Ro_has G ⟨Nat.le_refl _, Nat.le_refl _⟩ k_this h)
set_option maxHeartbeats 4000000 in
set_option maxRecDepth 100000 in
theorem w_Ro_copy {p : Program} {l : Launch} {e : Env} {R : Room} {s : State} {m : MethodId} {args : Array Value} {below : List Frame} {meth : Method} {c : Code} {D : va_G} {ca : Nat → ClassId} {b : Nat} {T : Tx} {V : Vx} (G : GX p s m meth c cX5_copy 3 (Option.none : Option Jvm.ClassFile.FieldType) RX5 "copy" D ca b) (hR : 1 ≤ R.frames ∧ 21 ≤ R.locals) {this : Nat} {p1 : Nat}  {Vf : Vx} (k_this : kd T this = 4) (k_p1 : kd T p1 = 4) (h : Ro_copy T V this p1 = some Vf) : WG p l e R s m args below meth c D ca b 3 (QG D ca b none T Vf below args s 0 0) 0 0 T V 0 [(0, rv b (some this)), (1, rv b (some p1))] [] := by
  unfold Ro_copy at h
  refine g_aload_n (pc := 0) G dX5_copy_0 0 rfl ?_
  obtain ⟨V2, e1, h⟩ := bd_e h
  refine g_callV (pc := 1) (As := []) (rest := []) (st2 := []) G (c_Ro_clear l D ca b k_this e1) (mb_Ro_clear G.2.2.2.2.1) (q447 G.2.2.2.2.1) (q448 G.2.2.2.2.1) (q636 G.2.2.2.2.1) ci_4 k_this rfl rfl (Nat.le_of_ble_eq_true rfl) ⟨Nat.le_trans (Nat.le_of_ble_eq_true rfl) hR.1, Nat.le_trans (Nat.le_of_ble_eq_true rfl) hR.2⟩ ⟨Nat.zero_le _, Nat.zero_le _⟩ rfl rfl dX5_copy_1 ?_
  refine g_iconst (pc := 4) G (v := 0) dX5_copy_4 (by decide) ?_
  refine g_istore_n (L' := [(2, .int 0), (0, rv b (some this)), (1, rv b (some p1))]) (pc := 5) G dX5_copy_5 (by decide) rfl ?_
  have LP7 : ∀ (n3 : Nat) (V5 : Vx) (v4 : Int32), Ro_copy_L6 T this p1 n3 V5 v4 = some Vf → WG p l e R s m args below meth c D ca b 3 (QG D ca b none T Vf below args s 0 0) 0 0 T V5 6 [(0, rv b (some this)), (1, rv b (some p1)), (2, .int v4)] [] := by
    intro n3
    induction n3 with
    | zero =>
      intro V5 v4 h
      cases h
    | succ n3 ih6 =>
      intro V5 v4 h
      rw [Ro_copy_L6] at h
      refine g_iload_n (pc := 6) G dX5_copy_6 2 rfl ?_
      refine g_aload_n (pc := 7) G dX5_copy_7 1 rfl ?_
      refine g_getI (pc := 8) G ci_4 (uw_4 G.2.2.2.2.1) (k := 1) (by decide) rfl rfl k_p1 (q104 G.2.2.2.2.1) dX5_copy_8 ?_
      refine g_icmp_ge (pc := 11) G 29 dX5_copy_11 (by decide) (fun c8 => ?_) (fun c8 => ?_)
      · rw [if_pos c8] at h
        cases h
        exact g_vret (pc := 29) G dX5_copy_29
      · rw [if_neg c8] at h
        refine g_aload_n (pc := 14) G dX5_copy_14 0 rfl ?_
        refine g_aload_n (pc := 15) G dX5_copy_15 1 rfl ?_
        refine g_iload_n (pc := 16) G dX5_copy_16 2 rfl ?_
        obtain ⟨r10, e9, h⟩ := bd_e h
        refine g_callV (pc := 17) (As := [.int v4]) (rest := [rv b (some this)]) (st2 := [.int r10, rv b (some this)]) G (c_Ro_at l D ca b k_p1 e9) (mb_Ro_at G.2.2.2.2.1) (q520 G.2.2.2.2.1) (q521 G.2.2.2.2.1) (q519 G.2.2.2.2.1) ci_4 k_p1 rfl rfl (Nat.le_of_ble_eq_true rfl) ⟨Nat.le_trans (Nat.le_of_ble_eq_true rfl) hR.1, Nat.le_trans (Nat.le_of_ble_eq_true rfl) hR.2⟩ ⟨Nat.zero_le _, Nat.zero_le _⟩ rfl rfl dX5_copy_17 ?_
        obtain ⟨V12, e11, h⟩ := bd_e h
        refine g_callV (pc := 20) (As := [.int r10]) (rest := []) (st2 := []) G (c_Ro_put l D ca b k_this e11) (mb_Ro_put G.2.2.2.2.1) (q504 G.2.2.2.2.1) (q505 G.2.2.2.2.1) (q637 G.2.2.2.2.1) ci_4 k_this rfl rfl (Nat.le_of_ble_eq_true rfl) ⟨Nat.le_trans (Nat.le_of_ble_eq_true rfl) hR.1, Nat.le_trans (Nat.le_of_ble_eq_true rfl) hR.2⟩ ⟨Nat.zero_le _, Nat.zero_le _⟩ rfl rfl dX5_copy_20 ?_
        refine g_iinc (v := v4 + 1) (L' := [(2, .int (v4 + 1)), (0, rv b (some this)), (1, rv b (some p1))]) (pc := 23) G dX5_copy_23 2 rfl rfl (by decide) rfl ?_
        refine g_goto (pc := 26) G 6 dX5_copy_26 (by decide) ?_
        exact g_sub [1, 2, 0] rfl (ih6 _ _ h)
  exact g_sub [1, 2, 0] rfl (LP7 _ _ _ h)
theorem c_Ro_copy (l : Launch) (D : va_G) (ca : Nat → ClassId) (b : Nat) {T : Tx} {V : Vx} {this : Nat} {p1 : Nat}  {Vf : Vx} (k_this : kd T this = 4) (k_p1 : kd T p1 = 4) (h : Ro_copy T V this p1 = some Vf) : MG l yX5_copy cX5_copy 3 (Option.none : Option Jvm.ClassFile.FieldType) 1 21 0 0 D ca b [rv b (some this), rv b (some p1)] T V none T Vf :=
  MG.ofWG (L := [(0, rv b (some this)), (1, rv b (some p1))]) (by decide +kernel) rfl (Nat.le_of_ble_eq_true rfl) (fun _ _ _ _ _ _ _ G _ => w_Ro_copy G ⟨Nat.le_refl _, Nat.le_refl _⟩ k_this k_p1 h)
set_option maxHeartbeats 4000000 in
set_option maxRecDepth 100000 in
theorem w_Ro_isSameAs {p : Program} {l : Launch} {e : Env} {R : Room} {s : State} {m : MethodId} {args : Array Value} {below : List Frame} {meth : Method} {c : Code} {D : va_G} {ca : Nat → ClassId} {b : Nat} {T : Tx} {V : Vx} (G : GX p s m meth c cX5_isSameAs 3 (Option.some Jvm.ClassFile.FieldType.boolean) RX5 "isSameAs" D ca b) (hR : 1 ≤ R.frames ∧ 21 ≤ R.locals) {this : Nat} {p1 : Nat} {rr : Int32}  (k_this : kd T this = 4) (k_p1 : kd T p1 = 4) (h : Ro_isSameAs T V this p1 = some rr) : WG p l e R s m args below meth c D ca b 3 (QG D ca b (some (.int rr)) T V below args s 0 0) 0 0 T V 0 [(0, rv b (some this)), (1, rv b (some p1))] [] := by
  unfold Ro_isSameAs at h
  refine g_aload_n (pc := 0) G dX5_isSameAs_0 0 rfl ?_
  refine g_getI (pc := 1) G ci_4 (uw_4 G.2.2.2.2.1) (k := 1) (by decide) rfl rfl k_this (q104 G.2.2.2.2.1) dX5_isSameAs_1 ?_
  refine g_aload_n (pc := 4) G dX5_isSameAs_4 1 rfl ?_
  refine g_getI (pc := 5) G ci_4 (uw_4 G.2.2.2.2.1) (k := 1) (by decide) rfl rfl k_p1 (q104 G.2.2.2.2.1) dX5_isSameAs_5 ?_
  refine g_icmp_eq (pc := 8) G 13 dX5_isSameAs_8 (by decide) (fun c1 => ?_) (fun c1 => ?_)
  · rw [if_pos c1] at h
    refine g_iconst (pc := 13) G (v := 0) dX5_isSameAs_13 (by decide) ?_
    refine g_istore_n (L' := [(2, .int 0), (0, rv b (some this)), (1, rv b (some p1))]) (pc := 14) G dX5_isSameAs_14 (by decide) rfl ?_
    have LP5 : ∀ (n2 : Nat) (v3 : Int32), Ro_isSameAs_L15 T V this p1 n2 v3 = some rr → WG p l e R s m args below meth c D ca b 3 (QG D ca b (some (.int rr)) T V below args s 0 0) 0 0 T V 15 [(0, rv b (some this)), (1, rv b (some p1)), (2, .int v3)] [] := by
      intro n2
      induction n2 with
      | zero =>
        intro v3 h
        cases h
      | succ n2 ih4 =>
        intro v3 h
        rw [Ro_isSameAs_L15] at h
        refine g_iload_n (pc := 15) G dX5_isSameAs_15 2 rfl ?_
        refine g_aload_n (pc := 16) G dX5_isSameAs_16 0 rfl ?_
        refine g_getI (pc := 17) G ci_4 (uw_4 G.2.2.2.2.1) (k := 1) (by decide) rfl rfl k_this (q104 G.2.2.2.2.1) dX5_isSameAs_17 ?_
        refine g_icmp_ge (pc := 20) G 44 dX5_isSameAs_20 (by decide) (fun c6 => ?_) (fun c6 => ?_)
        · rw [if_pos c6] at h
          refine g_iconst (pc := 44) G (v := 1) dX5_isSameAs_44 (by decide) ?_
          cases h
          exact g_zret (pc := 45) G rfl dX5_isSameAs_45
        · rw [if_neg c6] at h
          refine g_aload_n (pc := 23) G dX5_isSameAs_23 0 rfl ?_
          refine g_iload_n (pc := 24) G dX5_isSameAs_24 2 rfl ?_
          obtain ⟨r8, e7, h⟩ := bd_e h
          refine g_callV (pc := 25) (As := [.int v3]) (rest := []) (st2 := [.int r8]) G (c_Ro_at l D ca b k_this e7) (mb_Ro_at G.2.2.2.2.1) (q520 G.2.2.2.2.1) (q521 G.2.2.2.2.1) (q519 G.2.2.2.2.1) ci_4 k_this rfl rfl (Nat.le_of_ble_eq_true rfl) ⟨Nat.le_trans (Nat.le_of_ble_eq_true rfl) hR.1, Nat.le_trans (Nat.le_of_ble_eq_true rfl) hR.2⟩ ⟨Nat.zero_le _, Nat.zero_le _⟩ rfl rfl dX5_isSameAs_25 ?_
          refine g_aload_n (pc := 28) G dX5_isSameAs_28 1 rfl ?_
          refine g_iload_n (pc := 29) G dX5_isSameAs_29 2 rfl ?_
          obtain ⟨r10, e9, h⟩ := bd_e h
          refine g_callV (pc := 30) (As := [.int v3]) (rest := [.int r8]) (st2 := [.int r10, .int r8]) G (c_Ro_at l D ca b k_p1 e9) (mb_Ro_at G.2.2.2.2.1) (q520 G.2.2.2.2.1) (q521 G.2.2.2.2.1) (q519 G.2.2.2.2.1) ci_4 k_p1 rfl rfl (Nat.le_of_ble_eq_true rfl) ⟨Nat.le_trans (Nat.le_of_ble_eq_true rfl) hR.1, Nat.le_trans (Nat.le_of_ble_eq_true rfl) hR.2⟩ ⟨Nat.zero_le _, Nat.zero_le _⟩ rfl rfl dX5_isSameAs_30 ?_
          refine g_icmp_eq (pc := 33) G 38 dX5_isSameAs_33 (by decide) (fun c11 => ?_) (fun c11 => ?_)
          · rw [if_pos c11] at h
            refine g_iinc (v := v3 + 1) (L' := [(2, .int (v3 + 1)), (0, rv b (some this)), (1, rv b (some p1))]) (pc := 38) G dX5_isSameAs_38 2 rfl rfl (by decide) rfl ?_
            refine g_goto (pc := 41) G 15 dX5_isSameAs_41 (by decide) ?_
            exact g_sub [1, 2, 0] rfl (ih4 _ h)
          · rw [if_neg c11] at h
            refine g_iconst (pc := 36) G (v := 0) dX5_isSameAs_36 (by decide) ?_
            cases h
            exact g_zret (pc := 37) G rfl dX5_isSameAs_37
    exact g_sub [1, 2, 0] rfl (LP5 _ _ h)
  · rw [if_neg c1] at h
    refine g_iconst (pc := 11) G (v := 0) dX5_isSameAs_11 (by decide) ?_
    cases h
    exact g_zret (pc := 12) G rfl dX5_isSameAs_12
theorem c_Ro_isSameAs (l : Launch) (D : va_G) (ca : Nat → ClassId) (b : Nat) {T : Tx} {V : Vx} {this : Nat} {p1 : Nat} {rr : Int32}  (k_this : kd T this = 4) (k_p1 : kd T p1 = 4) (h : Ro_isSameAs T V this p1 = some rr) : MG l yX5_isSameAs cX5_isSameAs 3 (Option.some Jvm.ClassFile.FieldType.boolean) 1 21 0 0 D ca b [rv b (some this), rv b (some p1)] T V (some (.int rr)) T V :=
  MG.ofWG (L := [(0, rv b (some this)), (1, rv b (some p1))]) (by decide +kernel) rfl (Nat.le_of_ble_eq_true rfl) (fun _ _ _ _ _ _ _ G _ => w_Ro_isSameAs G ⟨Nat.le_refl _, Nat.le_refl _⟩ k_this k_p1 h)
set_option maxHeartbeats 4000000 in
set_option maxRecDepth 100000 in
theorem w_Sc_forget {p : Program} {l : Launch} {e : Env} {R : Room} {s : State} {m : MethodId} {args : Array Value} {below : List Frame} {meth : Method} {c : Code} {D : va_G} {ca : Nat → ClassId} {b : Nat} {T : Tx} {V : Vx} (G : GX p s m meth c cX6_forget 1 (Option.none : Option Jvm.ClassFile.FieldType) RX6 "forget" D ca b) (hR : 0 ≤ R.frames ∧ 0 ≤ R.locals) {this : Nat}  {Vf : Vx} (k_this : kd T this = 5) (h : Sc_forget T V this = some Vf) : WG p l e R s m args below meth c D ca b 1 (QG D ca b none T Vf below args s 0 0) 0 0 T V 0 [(0, rv b (some this))] [] := by
  unfold Sc_forget at h
  refine g_aload_n (pc := 0) G dX6_forget_0 0 rfl ?_
  refine g_iconst (pc := 1) G (v := 0) dX6_forget_1 (by decide) ?_
  obtain ⟨V1, e2, h⟩ := lt_e h
  refine g_putI (pc := 2) G ci_5 (uw_5 G.2.2.2.2.1) (k := 5) (by decide) rfl rfl k_this rfl (zo_n rfl) (q141 G.2.2.2.2.1) e2 dX6_forget_2 ?_
  cases h
  exact g_vret (pc := 5) G dX6_forget_5
theorem c_Sc_forget (l : Launch) (D : va_G) (ca : Nat → ClassId) (b : Nat) {T : Tx} {V : Vx} {this : Nat}  {Vf : Vx} (k_this : kd T this = 5) (h : Sc_forget T V this = some Vf) : MG l yX6_forget cX6_forget 1 (Option.none : Option Jvm.ClassFile.FieldType) 0 0 0 0 D ca b [rv b (some this)] T V none T Vf :=
  MG.ofWG (L := [(0, rv b (some this))]) (by decide +kernel) rfl (Nat.le_of_ble_eq_true rfl) (fun _ _ _ _ _ _ _ G _ => w_Sc_forget G ⟨Nat.le_refl _, Nat.le_refl _⟩ k_this h)
set_option maxHeartbeats 4000000 in
set_option maxRecDepth 100000 in
theorem w_Sc_weigh {p : Program} {l : Launch} {e : Env} {R : Room} {s : State} {m : MethodId} {args : Array Value} {below : List Frame} {meth : Method} {c : Code} {D : va_G} {ca : Nat → ClassId} {b : Nat} {T : Tx} {V : Vx} (G : GX p s m meth c cX6_weigh 10 (Option.none : Option Jvm.ClassFile.FieldType) RX6 "weigh" D ca b) (hR : 2 ≤ R.frames ∧ 47 ≤ R.locals) {this : Nat} {p1 : Nat} {p2 : Nat} {p3 : Int32}  {Vf : Vx} (k_this : kd T this = 5) (k_p1 : kd T p1 = 2) (k_p2 : kd T p2 = 7) (h : Sc_weigh T V this p1 p2 p3 = some Vf) : WG p l e R s m args below meth c D ca b 10 (QG D ca b none T Vf below args s 0 0) 0 0 T V 0 [(0, rv b (some this)), (1, rv b (some p1)), (2, rv b (some p2)), (3, .int p3)] [] := by
  unfold Sc_weigh at h
  refine g_iload_n (pc := 0) G dX6_weigh_0 3 rfl ?_
  refine g_if_lt (pc := 1) G 10 dX6_weigh_1 (by decide) (fun c1 => ?_) (fun c1 => ?_)
  · rw [if_pos c1] at h
    cases h
    exact g_vret (pc := 10) G dX6_weigh_10
  · rw [if_neg c1] at h
    refine g_iload_n (pc := 4) G dX6_weigh_4 3 rfl ?_
    refine g_bipush (pc := 5) G (v := 8) dX6_weigh_5 (by decide) ?_
    refine g_icmp_le (pc := 7) G 11 dX6_weigh_7 (by decide) (fun c2 => ?_) (fun c2 => ?_)
    · rw [if_pos c2] at h
      refine g_iload_n (pc := 11) G dX6_weigh_11 3 rfl ?_
      obtain ⟨x3, hx5, h⟩ := bd_e h
      have K4 : WG p l e R s m args below meth c D ca b 10 (QG D ca b none T Vf below args s 0 0) 0 0 T V 29 [(0, rv b (some this)), (1, rv b (some p1)), (2, rv b (some p2)), (3, .int p3)] [.int x3] := by
        refine g_istore (L' := [(4, .int x3), (0, rv b (some this)), (1, rv b (some p1)), (2, rv b (some p2)), (3, .int p3)]) (pc := 29) G dX6_weigh_29 (by decide) rfl ?_
        refine g_aload_n (pc := 31) G dX6_weigh_31 1 rfl ?_
        obtain ⟨r11, e12, h⟩ := bd_e h
        obtain ⟨f13, k14⟩ := ck_e e12
        refine g_getR (pc := 32) G ci_5 (uw_5 G.2.2.2.2.1) (k := 1) (by decide) rfl rfl k_this (q137 G.2.2.2.2.1) dX6_weigh_32 f13 ?_
        refine g_iload_n (pc := 35) G dX6_weigh_35 4 rfl ?_
        refine g_iload (pc := 36) G dX6_weigh_36 0 rfl ?_
        obtain ⟨x15, hx17, h⟩ := bd_e h
        have K16 : WG p l e R s m args below meth c D ca b 10 (QG D ca b none T Vf below args s 0 0) 0 0 T V 48 [(0, rv b (some this)), (1, rv b (some p1)), (2, rv b (some p2)), (3, .int p3), (4, .int x3)] [.int x15, .int p3, rv b (some r11)] := by
          obtain ⟨b20, h⟩ := gd_e h
          obtain ⟨V21, e22, h⟩ := lt_e h
          refine g_iast (pc := 48) G k14 b20 e22 dX6_weigh_48 ?_
          refine g_aload_n (pc := 49) G dX6_weigh_49 0 rfl ?_
          obtain ⟨r23, e24, h⟩ := bd_e h
          obtain ⟨f25, k26⟩ := ck_e e24
          refine g_getR (pc := 50) G ci_5 (uw_5 G.2.2.2.2.1) (k := 2) (by decide) rfl rfl k_this (q138 G.2.2.2.2.1) dX6_weigh_50 f25 ?_
          refine g_iload_n (pc := 53) G dX6_weigh_53 3 rfl ?_
          refine g_iconst (pc := 54) G (v := 0) dX6_weigh_54 (by decide) ?_
          obtain ⟨b27, h⟩ := gd_e h
          obtain ⟨V28, e29, h⟩ := lt_e h
          refine g_iast (pc := 55) G k26 b27 e29 dX6_weigh_55 ?_
          refine g_aload_n (pc := 56) G dX6_weigh_56 0 rfl ?_
          obtain ⟨r30, e31, h⟩ := bd_e h
          obtain ⟨f32, k33⟩ := ck_e e31
          refine g_getR (pc := 57) G ci_5 (uw_5 G.2.2.2.2.1) (k := 3) (by decide) rfl rfl k_this (q139 G.2.2.2.2.1) dX6_weigh_57 f32 ?_
          refine g_iload_n (pc := 60) G dX6_weigh_60 3 rfl ?_
          refine g_bipush (pc := 61) G (v := (-4)) dX6_weigh_61 (by decide) ?_
          obtain ⟨b34, h⟩ := gd_e h
          obtain ⟨V35, e36, h⟩ := lt_e h
          refine g_iast (pc := 63) G k33 b34 e36 dX6_weigh_63 ?_
          refine g_iconst (pc := 64) G (v := 0) dX6_weigh_64 (by decide) ?_
          refine g_istore (L' := [(5, .int 0), (0, rv b (some this)), (1, rv b (some p1)), (2, rv b (some p2)), (3, .int p3), (4, .int x3)]) (pc := 65) G dX6_weigh_65 (by decide) rfl ?_
          have LP41 : ∀ (n37 : Nat) (V39 : Vx) (v38 : Int32), Sc_weigh_L67 T this p1 p2 p3 x3 n37 V39 v38 = some Vf → WG p l e R s m args below meth c D ca b 10 (QG D ca b none T Vf below args s 0 0) 0 0 T V39 67 [(0, rv b (some this)), (1, rv b (some p1)), (2, rv b (some p2)), (3, .int p3), (4, .int x3), (5, .int v38)] [] := by
            intro n37
            induction n37 with
            | zero =>
              intro V39 v38 h
              cases h
            | succ n37 ih40 =>
              intro V39 v38 h
              rw [Sc_weigh_L67.eq_def] at h
              dsimp only at h
              refine g_iload (pc := 67) G dX6_weigh_67 5 rfl ?_
              refine g_aload_n (pc := 69) G dX6_weigh_69 1 rfl ?_
              refine g_getIN (pc := 70) G ci_2 (uw_2 G.2.2.2.2.1) (k := 2) (by decide) rfl rfl k_p1 (q304 G.2.2.2.2.1) dX6_weigh_70 ?_
              refine g_icmp_ge (pc := 73) G 227 dX6_weigh_73 (by decide) (fun c42 => ?_) (fun c42 => ?_)
              · rw [if_pos c42] at h
                cases h
                exact g_vret (pc := 227) G dX6_weigh_227
              · rw [if_neg c42] at h
                refine g_iload (pc := 76) G dX6_weigh_76 4 rfl ?_
                refine g_if_ne (pc := 78) G 227 dX6_weigh_78 (by decide) (fun c43 => ?_) (fun c43 => ?_)
                · rw [if_neg c43] at h
                  cases h
                  exact g_vret (pc := 227) G dX6_weigh_227
                · rw [if_pos c43] at h
                  refine g_aload_n (pc := 81) G dX6_weigh_81 1 rfl ?_
                  refine g_iload (pc := 82) G dX6_weigh_82 5 rfl ?_
                  obtain ⟨r45, e44, h⟩ := bd_e h
                  refine g_callV (pc := 84) (As := [.int v38]) (rest := []) (st2 := [rv b r45]) G (c_Lx_signAt l D ca b k_p1 e44) (mb_Lx_signAt G.2.2.2.2.1) (q463 G.2.2.2.2.1) (q464 G.2.2.2.2.1) (q573 G.2.2.2.2.1) ci_2 k_p1 rfl rfl (Nat.le_of_ble_eq_true rfl) ⟨Nat.le_trans (Nat.le_of_ble_eq_true rfl) hR.1, Nat.le_trans (Nat.le_of_ble_eq_true rfl) hR.2⟩ ⟨Nat.zero_le _, Nat.zero_le _⟩ rfl rfl dX6_weigh_84 ?_
                  refine g_astore (L' := [(6, rv b r45), (0, rv b (some this)), (1, rv b (some p1)), (2, rv b (some p2)), (3, .int p3), (4, .int x3), (5, .int v38)]) (pc := 87) G dX6_weigh_87 (by decide) rfl ?_
                  refine g_aload (pc := 89) G dX6_weigh_89 0 rfl ?_
                  cases r45 with
                  | none =>
                    dsimp only at h
                    refine g_ifnonnullN (pc := 91) G dX6_weigh_91 ?_
                    refine g_goto (pc := 94) G 221 dX6_weigh_94 (by decide) ?_
                    refine g_iinc (v := v38 + 1) (L' := [(5, .int (v38 + 1)), (6, rv b none), (0, rv b (some this)), (1, rv b (some p1)), (2, rv b (some p2)), (3, .int p3), (4, .int x3)]) (pc := 221) G dX6_weigh_221 6 rfl rfl (by decide) rfl ?_
                    refine g_goto (pc := 224) G 67 dX6_weigh_224 (by decide) ?_
                    exact g_sub [2, 3, 4, 5, 6, 0] rfl (ih40 _ _ h)
                  | some r46 =>
                    dsimp only at h
                    refine g_ifnonnullS (pc := 91) G 97 dX6_weigh_91 (by decide) ?_
                    refine g_aload_n (pc := 97) G dX6_weigh_97 2 rfl ?_
                    refine g_aload_n (pc := 98) G dX6_weigh_98 3 rfl ?_
                    refine g_iload_n (pc := 99) G dX6_weigh_99 4 rfl ?_
                    refine g_aload (pc := 100) G dX6_weigh_100 0 rfl ?_
                    obtain ⟨r49, e48, h⟩ := bd_e h
                    have k47 : kd T r46 = 6 := by
                      obtain ⟨ee, k0⟩ := ck_e e48
                      cases ee
                      exact k0
                    obtain ⟨r51, e50, h⟩ := bd_e h
                    refine g_callV (pc := 102) (As := [rv b (some p2), .int p3, rv b (some r46)]) (rest := []) (st2 := [.int r51]) G (c_Lx_placeBehind l D ca b k_p1 k_p2 k47 e50) (mb_Lx_placeBehind G.2.2.2.2.1) (q575 G.2.2.2.2.1) (q576 G.2.2.2.2.1) (q574 G.2.2.2.2.1) ci_2 k_p1 rfl rfl (Nat.le_of_ble_eq_true rfl) ⟨Nat.le_trans (Nat.le_of_ble_eq_true rfl) hR.1, Nat.le_trans (Nat.le_of_ble_eq_true rfl) hR.2⟩ ⟨Nat.zero_le _, Nat.zero_le _⟩ rfl rfl dX6_weigh_102 ?_
                    refine g_istore (L' := [(7, .int r51), (6, rv b (some r46)), (0, rv b (some this)), (1, rv b (some p1)), (2, rv b (some p2)), (3, .int p3), (4, .int x3), (5, .int v38)]) (pc := 105) G dX6_weigh_105 (by decide) rfl ?_
                    refine g_iload (pc := 107) G dX6_weigh_107 0 rfl ?_
                    refine g_if_lt (pc := 109) G 221 dX6_weigh_109 (by decide) (fun c52 => ?_) (fun c52 => ?_)
                    · rw [if_pos c52] at h
                      refine g_iinc (v := v38 + 1) (L' := [(5, .int (v38 + 1)), (7, .int r51), (6, rv b (some r46)), (0, rv b (some this)), (1, rv b (some p1)), (2, rv b (some p2)), (3, .int p3), (4, .int x3)]) (pc := 221) G dX6_weigh_221 7 rfl rfl (by decide) rfl ?_
                      refine g_goto (pc := 224) G 67 dX6_weigh_224 (by decide) ?_
                      exact g_sub [3, 4, 5, 6, 7, 0] rfl (ih40 _ _ h)
                    · rw [if_neg c52] at h
                      refine g_iload (pc := 112) G dX6_weigh_112 0 rfl ?_
                      refine g_bipush (pc := 114) G (v := 8) dX6_weigh_114 (by decide) ?_
                      refine g_icmp_gt (pc := 116) G 221 dX6_weigh_116 (by decide) (fun c53 => ?_) (fun c53 => ?_)
                      · rw [if_pos c53] at h
                        refine g_iinc (v := v38 + 1) (L' := [(5, .int (v38 + 1)), (7, .int r51), (6, rv b (some r46)), (0, rv b (some this)), (1, rv b (some p1)), (2, rv b (some p2)), (3, .int p3), (4, .int x3)]) (pc := 221) G dX6_weigh_221 7 rfl rfl (by decide) rfl ?_
                        refine g_goto (pc := 224) G 67 dX6_weigh_224 (by decide) ?_
                        exact g_sub [3, 4, 5, 6, 7, 0] rfl (ih40 _ _ h)
                      · rw [if_neg c53] at h
                        refine g_aload_n (pc := 119) G dX6_weigh_119 2 rfl ?_
                        obtain ⟨r54, e55, h⟩ := bd_e h
                        obtain ⟨f56, k57⟩ := ck_e e55
                        refine g_getR (pc := 120) G ci_5 (uw_5 G.2.2.2.2.1) (k := 1) (by decide) rfl rfl k_this (q137 G.2.2.2.2.1) dX6_weigh_120 f56 ?_
                        refine g_iload (pc := 123) G dX6_weigh_123 0 rfl ?_
                        obtain ⟨b58, h⟩ := gd_e h
                        refine g_iald (pc := 125) G k57 b58 dX6_weigh_125 ?_
                        refine g_sipush (pc := 126) G (v := 1000) dX6_weigh_126 (by decide) ?_
                        refine g_icmp_lt (pc := 129) G 135 dX6_weigh_129 (by decide) (fun c59 => ?_) (fun c59 => ?_)
                        · rw [if_pos c59] at h
                          refine g_aload_n (pc := 135) G dX6_weigh_135 2 rfl ?_
                          obtain ⟨r60, e61, h⟩ := bd_e h
                          obtain ⟨f62, k63⟩ := ck_e e61
                          refine g_getR (pc := 136) G ci_5 (uw_5 G.2.2.2.2.1) (k := 1) (by decide) rfl rfl k_this (q137 G.2.2.2.2.1) dX6_weigh_136 f62 ?_
                          refine g_iload (pc := 139) G dX6_weigh_139 0 rfl ?_
                          obtain ⟨b64, h⟩ := gd_e h
                          refine g_iald (pc := 141) G k63 b64 dX6_weigh_141 ?_
                          refine g_iconst (pc := 142) G (v := 1) dX6_weigh_142 (by decide) ?_
                          refine g_iadd (pc := 143) G dX6_weigh_143 ?_
                          obtain ⟨x65, e66, h⟩ := lt_e h
                          rw [e66]
                          refine g_istore (L' := [(8, .int x65), (7, .int r51), (6, rv b (some r46)), (0, rv b (some this)), (1, rv b (some p1)), (2, rv b (some p2)), (3, .int p3), (4, .int x3), (5, .int v38)]) (pc := 144) G dX6_weigh_144 (by decide) rfl ?_
                          refine g_aload_n (pc := 146) G dX6_weigh_146 3 rfl ?_
                          obtain ⟨r67, e68, h⟩ := bd_e h
                          obtain ⟨f69, k70⟩ := ck_e e68
                          refine g_getR (pc := 147) G ci_5 (uw_5 G.2.2.2.2.1) (k := 2) (by decide) rfl rfl k_this (q138 G.2.2.2.2.1) dX6_weigh_147 f69 ?_
                          refine g_iload (pc := 150) G dX6_weigh_150 1 rfl ?_
                          obtain ⟨b71, h⟩ := gd_e h
                          refine g_iald (pc := 152) G k70 b71 dX6_weigh_152 ?_
                          refine g_aload (pc := 153) G dX6_weigh_153 2 rfl ?_
                          obtain ⟨r72, e73, h⟩ := bd_e h
                          obtain ⟨f74, k75⟩ := ck_e e73
                          refine g_getRN (pc := 155) G ci_6 (uw_6 G.2.2.2.2.1) (k := 0) (by decide) rfl rfl k47 (q254 G.2.2.2.2.1) dX6_weigh_155 f74 ?_
                          obtain ⟨r77, e76, h⟩ := bd_e h
                          refine g_callV (pc := 158) (As := []) (rest := [.int (aI V39 r67 r51.toNatClampNeg)]) (st2 := [.int r77, .int (aI V39 r67 r51.toNatClampNeg)]) G (c_Le_size l D ca b k75 e76) (mb_Le_size G.2.2.2.2.1) (q332 G.2.2.2.2.1) (q333 G.2.2.2.2.1) (q560 G.2.2.2.2.1) ci_1 k75 rfl rfl (Nat.le_of_ble_eq_true rfl) ⟨Nat.le_trans (Nat.le_of_ble_eq_true rfl) hR.1, Nat.le_trans (Nat.le_of_ble_eq_true rfl) hR.2⟩ ⟨Nat.zero_le _, Nat.zero_le _⟩ rfl rfl dX6_weigh_158 ?_
                          refine g_iadd (pc := 161) G dX6_weigh_161 ?_
                          obtain ⟨x78, e79, h⟩ := lt_e h
                          rw [e79]
                          refine g_istore (L' := [(9, .int x78), (8, .int x65), (7, .int r51), (6, rv b (some r46)), (0, rv b (some this)), (1, rv b (some p1)), (2, rv b (some p2)), (3, .int p3), (4, .int x3), (5, .int v38)]) (pc := 162) G dX6_weigh_162 (by decide) rfl ?_
                          refine g_iload (pc := 164) G dX6_weigh_164 1 rfl ?_
                          refine g_aload_n (pc := 166) G dX6_weigh_166 4 rfl ?_
                          obtain ⟨r80, e81, h⟩ := bd_e h
                          obtain ⟨f82, k83⟩ := ck_e e81
                          refine g_getR (pc := 167) G ci_5 (uw_5 G.2.2.2.2.1) (k := 1) (by decide) rfl rfl k_this (q137 G.2.2.2.2.1) dX6_weigh_167 f82 ?_
                          refine g_iload_n (pc := 170) G dX6_weigh_170 7 rfl ?_
                          obtain ⟨b84, h⟩ := gd_e h
                          refine g_iald (pc := 171) G k83 b84 dX6_weigh_171 ?_
                          refine g_icmp_lt (pc := 172) G 197 dX6_weigh_172 (by decide) (fun c85 => ?_) (fun c85 => ?_)
                          · rw [if_pos c85] at h
                            refine g_aload_n (pc := 197) G dX6_weigh_197 4 rfl ?_
                            obtain ⟨r86, e87, h⟩ := bd_e h
                            obtain ⟨f88, k89⟩ := ck_e e87
                            refine g_getR (pc := 198) G ci_5 (uw_5 G.2.2.2.2.1) (k := 1) (by decide) rfl rfl k_this (q137 G.2.2.2.2.1) dX6_weigh_198 f88 ?_
                            refine g_iload_n (pc := 201) G dX6_weigh_201 7 rfl ?_
                            refine g_iload (pc := 202) G dX6_weigh_202 1 rfl ?_
                            obtain ⟨b90, h⟩ := gd_e h
                            obtain ⟨V91, e92, h⟩ := lt_e h
                            refine g_iast (pc := 204) G k89 b90 e92 dX6_weigh_204 ?_
                            refine g_aload_n (pc := 205) G dX6_weigh_205 4 rfl ?_
                            obtain ⟨r93, e94, h⟩ := bd_e h
                            obtain ⟨f95, k96⟩ := ck_e e94
                            refine g_getR (pc := 206) G ci_5 (uw_5 G.2.2.2.2.1) (k := 2) (by decide) rfl rfl k_this (q138 G.2.2.2.2.1) dX6_weigh_206 f95 ?_
                            refine g_iload_n (pc := 209) G dX6_weigh_209 7 rfl ?_
                            refine g_iload (pc := 210) G dX6_weigh_210 0 rfl ?_
                            obtain ⟨b97, h⟩ := gd_e h
                            obtain ⟨V98, e99, h⟩ := lt_e h
                            refine g_iast (pc := 212) G k96 b97 e99 dX6_weigh_212 ?_
                            refine g_aload_n (pc := 213) G dX6_weigh_213 4 rfl ?_
                            obtain ⟨r100, e101, h⟩ := bd_e h
                            obtain ⟨f102, k103⟩ := ck_e e101
                            refine g_getR (pc := 214) G ci_5 (uw_5 G.2.2.2.2.1) (k := 3) (by decide) rfl rfl k_this (q139 G.2.2.2.2.1) dX6_weigh_214 f102 ?_
                            refine g_iload_n (pc := 217) G dX6_weigh_217 7 rfl ?_
                            refine g_iload (pc := 218) G dX6_weigh_218 9 rfl ?_
                            obtain ⟨b104, h⟩ := gd_e h
                            obtain ⟨V105, e106, h⟩ := lt_e h
                            refine g_iast (pc := 220) G k103 b104 e106 dX6_weigh_220 ?_
                            refine g_iinc (v := v38 + 1) (L' := [(5, .int (v38 + 1)), (9, .int x78), (8, .int x65), (7, .int r51), (6, rv b (some r46)), (0, rv b (some this)), (1, rv b (some p1)), (2, rv b (some p2)), (3, .int p3), (4, .int x3)]) (pc := 221) G dX6_weigh_221 9 rfl rfl (by decide) rfl ?_
                            refine g_goto (pc := 224) G 67 dX6_weigh_224 (by decide) ?_
                            exact g_sub [5, 6, 7, 8, 9, 0] rfl (ih40 _ _ h)
                          · rw [if_neg c85] at h
                            refine g_iload (pc := 175) G dX6_weigh_175 1 rfl ?_
                            refine g_aload_n (pc := 177) G dX6_weigh_177 4 rfl ?_
                            obtain ⟨r107, e108, h⟩ := bd_e h
                            obtain ⟨f109, k110⟩ := ck_e e108
                            refine g_getR (pc := 178) G ci_5 (uw_5 G.2.2.2.2.1) (k := 1) (by decide) rfl rfl k_this (q137 G.2.2.2.2.1) dX6_weigh_178 f109 ?_
                            refine g_iload_n (pc := 181) G dX6_weigh_181 7 rfl ?_
                            obtain ⟨b111, h⟩ := gd_e h
                            refine g_iald (pc := 182) G k110 b111 dX6_weigh_182 ?_
                            refine g_icmp_ne (pc := 183) G 221 dX6_weigh_183 (by decide) (fun c112 => ?_) (fun c112 => ?_)
                            · rw [if_neg c112] at h
                              refine g_iinc (v := v38 + 1) (L' := [(5, .int (v38 + 1)), (9, .int x78), (8, .int x65), (7, .int r51), (6, rv b (some r46)), (0, rv b (some this)), (1, rv b (some p1)), (2, rv b (some p2)), (3, .int p3), (4, .int x3)]) (pc := 221) G dX6_weigh_221 9 rfl rfl (by decide) rfl ?_
                              refine g_goto (pc := 224) G 67 dX6_weigh_224 (by decide) ?_
                              exact g_sub [5, 6, 7, 8, 9, 0] rfl (ih40 _ _ h)
                            · rw [if_pos c112] at h
                              refine g_iload (pc := 186) G dX6_weigh_186 0 rfl ?_
                              refine g_aload_n (pc := 188) G dX6_weigh_188 4 rfl ?_
                              obtain ⟨r113, e114, h⟩ := bd_e h
                              obtain ⟨f115, k116⟩ := ck_e e114
                              refine g_getR (pc := 189) G ci_5 (uw_5 G.2.2.2.2.1) (k := 2) (by decide) rfl rfl k_this (q138 G.2.2.2.2.1) dX6_weigh_189 f115 ?_
                              refine g_iload_n (pc := 192) G dX6_weigh_192 7 rfl ?_
                              obtain ⟨b117, h⟩ := gd_e h
                              refine g_iald (pc := 193) G k116 b117 dX6_weigh_193 ?_
                              refine g_icmp_le (pc := 194) G 221 dX6_weigh_194 (by decide) (fun c118 => ?_) (fun c118 => ?_)
                              · rw [if_pos c118] at h
                                refine g_iinc (v := v38 + 1) (L' := [(5, .int (v38 + 1)), (9, .int x78), (8, .int x65), (7, .int r51), (6, rv b (some r46)), (0, rv b (some this)), (1, rv b (some p1)), (2, rv b (some p2)), (3, .int p3), (4, .int x3)]) (pc := 221) G dX6_weigh_221 9 rfl rfl (by decide) rfl ?_
                                refine g_goto (pc := 224) G 67 dX6_weigh_224 (by decide) ?_
                                exact g_sub [5, 6, 7, 8, 9, 0] rfl (ih40 _ _ h)
                              · rw [if_neg c118] at h
                                refine g_aload_n (pc := 197) G dX6_weigh_197 4 rfl ?_
                                obtain ⟨r119, e120, h⟩ := bd_e h
                                obtain ⟨f121, k122⟩ := ck_e e120
                                refine g_getR (pc := 198) G ci_5 (uw_5 G.2.2.2.2.1) (k := 1) (by decide) rfl rfl k_this (q137 G.2.2.2.2.1) dX6_weigh_198 f121 ?_
                                refine g_iload_n (pc := 201) G dX6_weigh_201 7 rfl ?_
                                refine g_iload (pc := 202) G dX6_weigh_202 1 rfl ?_
                                obtain ⟨b123, h⟩ := gd_e h
                                obtain ⟨V124, e125, h⟩ := lt_e h
                                refine g_iast (pc := 204) G k122 b123 e125 dX6_weigh_204 ?_
                                refine g_aload_n (pc := 205) G dX6_weigh_205 4 rfl ?_
                                obtain ⟨r126, e127, h⟩ := bd_e h
                                obtain ⟨f128, k129⟩ := ck_e e127
                                refine g_getR (pc := 206) G ci_5 (uw_5 G.2.2.2.2.1) (k := 2) (by decide) rfl rfl k_this (q138 G.2.2.2.2.1) dX6_weigh_206 f128 ?_
                                refine g_iload_n (pc := 209) G dX6_weigh_209 7 rfl ?_
                                refine g_iload (pc := 210) G dX6_weigh_210 0 rfl ?_
                                obtain ⟨b130, h⟩ := gd_e h
                                obtain ⟨V131, e132, h⟩ := lt_e h
                                refine g_iast (pc := 212) G k129 b130 e132 dX6_weigh_212 ?_
                                refine g_aload_n (pc := 213) G dX6_weigh_213 4 rfl ?_
                                obtain ⟨r133, e134, h⟩ := bd_e h
                                obtain ⟨f135, k136⟩ := ck_e e134
                                refine g_getR (pc := 214) G ci_5 (uw_5 G.2.2.2.2.1) (k := 3) (by decide) rfl rfl k_this (q139 G.2.2.2.2.1) dX6_weigh_214 f135 ?_
                                refine g_iload_n (pc := 217) G dX6_weigh_217 7 rfl ?_
                                refine g_iload (pc := 218) G dX6_weigh_218 9 rfl ?_
                                obtain ⟨b137, h⟩ := gd_e h
                                obtain ⟨V138, e139, h⟩ := lt_e h
                                refine g_iast (pc := 220) G k136 b137 e139 dX6_weigh_220 ?_
                                refine g_iinc (v := v38 + 1) (L' := [(5, .int (v38 + 1)), (9, .int x78), (8, .int x65), (7, .int r51), (6, rv b (some r46)), (0, rv b (some this)), (1, rv b (some p1)), (2, rv b (some p2)), (3, .int p3), (4, .int x3)]) (pc := 221) G dX6_weigh_221 9 rfl rfl (by decide) rfl ?_
                                refine g_goto (pc := 224) G 67 dX6_weigh_224 (by decide) ?_
                                exact g_sub [5, 6, 7, 8, 9, 0] rfl (ih40 _ _ h)
                        · rw [if_neg c59] at h
                          refine g_goto (pc := 132) G 221 dX6_weigh_132 (by decide) ?_
                          refine g_iinc (v := v38 + 1) (L' := [(5, .int (v38 + 1)), (7, .int r51), (6, rv b (some r46)), (0, rv b (some this)), (1, rv b (some p1)), (2, rv b (some p2)), (3, .int p3), (4, .int x3)]) (pc := 221) G dX6_weigh_221 7 rfl rfl (by decide) rfl ?_
                          refine g_goto (pc := 224) G 67 dX6_weigh_224 (by decide) ?_
                          exact g_sub [3, 4, 5, 6, 7, 0] rfl (ih40 _ _ h)
          exact g_sub [1, 2, 3, 4, 5, 0] rfl (LP41 _ _ _ h)
        refine g_if_eq (pc := 38) G 45 dX6_weigh_38 (by decide) (fun c19 => ?_) (fun c19 => ?_)
        · rw [if_pos c19] at hx17
          refine g_sipush (pc := 45) G (v := 1000) dX6_weigh_45 (by decide) ?_
          cases hx17
          exact g_sub [1, 2, 3, 4, 0] rfl K16
        · rw [if_neg c19] at hx17
          refine g_iconst (pc := 41) G (v := 0) dX6_weigh_41 (by decide) ?_
          refine g_goto (pc := 42) G 48 dX6_weigh_42 (by decide) ?_
          cases hx17
          exact g_sub [1, 2, 3, 4, 0] rfl K16
      refine g_if_le (pc := 12) G 28 dX6_weigh_12 (by decide) (fun c7 => ?_) (fun c7 => ?_)
      · rw [if_pos c7] at hx5
        refine g_iconst (pc := 28) G (v := 0) dX6_weigh_28 (by decide) ?_
        cases hx5
        exact g_sub [0, 1, 2, 3] rfl K4
      · rw [if_neg c7] at hx5
        refine g_aload_n (pc := 15) G dX6_weigh_15 1 rfl ?_
        refine g_aload_n (pc := 16) G dX6_weigh_16 2 rfl ?_
        refine g_iload_n (pc := 17) G dX6_weigh_17 3 rfl ?_
        obtain ⟨r9, e8, hx5⟩ := bd_e hx5
        refine g_callV (pc := 18) (As := [rv b (some p2), .int p3]) (rest := []) (st2 := [.int r9]) G (c_Lx_mayEndAt l D ca b k_p1 k_p2 e8) (mb_Lx_mayEndAt G.2.2.2.2.1) (q566 G.2.2.2.2.1) (q567 G.2.2.2.2.1) (q565 G.2.2.2.2.1) ci_2 k_p1 rfl rfl (Nat.le_of_ble_eq_true rfl) ⟨Nat.le_trans (Nat.le_of_ble_eq_true rfl) hR.1, Nat.le_trans (Nat.le_of_ble_eq_true rfl) hR.2⟩ ⟨Nat.zero_le _, Nat.zero_le _⟩ rfl rfl dX6_weigh_18 ?_
        refine g_if_eq (pc := 21) G 28 dX6_weigh_21 (by decide) (fun c10 => ?_) (fun c10 => ?_)
        · rw [if_pos c10] at hx5
          refine g_iconst (pc := 28) G (v := 0) dX6_weigh_28 (by decide) ?_
          cases hx5
          exact g_sub [0, 1, 2, 3] rfl K4
        · rw [if_neg c10] at hx5
          refine g_iconst (pc := 24) G (v := 1) dX6_weigh_24 (by decide) ?_
          refine g_goto (pc := 25) G 29 dX6_weigh_25 (by decide) ?_
          cases hx5
          exact g_sub [0, 1, 2, 3] rfl K4
    · rw [if_neg c2] at h
      cases h
      exact g_vret (pc := 10) G dX6_weigh_10
theorem c_Sc_weigh (l : Launch) (D : va_G) (ca : Nat → ClassId) (b : Nat) {T : Tx} {V : Vx} {this : Nat} {p1 : Nat} {p2 : Nat} {p3 : Int32}  {Vf : Vx} (k_this : kd T this = 5) (k_p1 : kd T p1 = 2) (k_p2 : kd T p2 = 7) (h : Sc_weigh T V this p1 p2 p3 = some Vf) : MG l yX6_weigh cX6_weigh 10 (Option.none : Option Jvm.ClassFile.FieldType) 2 47 0 0 D ca b [rv b (some this), rv b (some p1), rv b (some p2), .int p3] T V none T Vf :=
  MG.ofWG (L := [(0, rv b (some this)), (1, rv b (some p1)), (2, rv b (some p2)), (3, .int p3)]) (by decide +kernel) rfl (Nat.le_of_ble_eq_true rfl) (fun _ _ _ _ _ _ _ G _ => w_Sc_weigh G ⟨Nat.le_refl _, Nat.le_refl _⟩ k_this k_p1 k_p2 h)
set_option maxHeartbeats 4000000 in
set_option maxRecDepth 100000 in
theorem w_Sc_findLeast {p : Program} {l : Launch} {e : Env} {R : Room} {s : State} {m : MethodId} {args : Array Value} {below : List Frame} {meth : Method} {c : Code} {D : va_G} {ca : Nat → ClassId} {b : Nat} {T : Tx} {V : Vx} (G : GX p s m meth c cX6_findLeast 7 (Option.none : Option Jvm.ClassFile.FieldType) RX6 "findLeast" D ca b) (hR : 3 ≤ R.frames ∧ 76 ≤ R.locals) {this : Nat} {p1 : Nat} {p2 : Nat} {p3 : Nat}  {Vf : Vx} (k_this : kd T this = 5) (k_p1 : kd T p1 = 2) (k_p2 : kd T p2 = 7) (k_p3 : kd T p3 = 4) (h : Sc_findLeast T V this p1 p2 p3 = some Vf) : WG p l e R s m args below meth c D ca b 7 (QG D ca b none T Vf below args s 0 0) 0 0 T V 0 [(0, rv b (some this)), (1, rv b (some p1)), (2, rv b (some p2)), (3, rv b (some p3))] [] := by
  unfold Sc_findLeast at h
  refine g_aload_n (pc := 0) G dX6_findLeast_0 2 rfl ?_
  obtain ⟨r1, e2, h⟩ := bd_e h
  obtain ⟨f3, k4⟩ := ck_e e2
  refine g_getRN (pc := 1) G ci_7 (uw_7 G.2.2.2.2.1) (k := 0) (by decide) rfl rfl k_p2 (q287 G.2.2.2.2.1) dX6_findLeast_1 f3 ?_
  obtain ⟨r6, e5, h⟩ := bd_e h
  refine g_callV (pc := 4) (As := []) (rest := []) (st2 := [.int r6]) G (c_Le_size l D ca b k4 e5) (mb_Le_size G.2.2.2.2.1) (q332 G.2.2.2.2.1) (q333 G.2.2.2.2.1) (q560 G.2.2.2.2.1) ci_1 k4 rfl rfl (Nat.le_of_ble_eq_true rfl) ⟨Nat.le_trans (Nat.le_of_ble_eq_true rfl) hR.1, Nat.le_trans (Nat.le_of_ble_eq_true rfl) hR.2⟩ ⟨Nat.zero_le _, Nat.zero_le _⟩ rfl rfl dX6_findLeast_4 ?_
  refine g_istore (L' := [(4, .int r6), (0, rv b (some this)), (1, rv b (some p1)), (2, rv b (some p2)), (3, rv b (some p3))]) (pc := 7) G dX6_findLeast_7 (by decide) rfl ?_
  have LP11 : ∀ (n7 : Nat) (V9 : Vx) (v8 : Int32) (V12 : Vx), Sc_findLeast_L9 T this p1 p2 p3 n7 V9 v8 = some (V12) → WG p l e R s m args below meth c D ca b 7 (QG D ca b none T Vf below args s 0 0) 0 0 T V12 28 [(0, rv b (some this)), (1, rv b (some p1)), (2, rv b (some p2)), (3, rv b (some p3))] [] → WG p l e R s m args below meth c D ca b 7 (QG D ca b none T Vf below args s 0 0) 0 0 T V9 9 [(0, rv b (some this)), (1, rv b (some p1)), (2, rv b (some p2)), (3, rv b (some p3)), (4, .int v8)] [] := by
    intro n7
    induction n7 with
    | zero =>
      intro V9 v8 V12 h
      cases h
    | succ n7 ih10 =>
      intro V9 v8 V12 h K13
      rw [Sc_findLeast_L9] at h
      refine g_iload (pc := 9) G dX6_findLeast_9 4 rfl ?_
      refine g_if_lt (pc := 11) G 28 dX6_findLeast_11 (by decide) (fun c14 => ?_) (fun c14 => ?_)
      · rw [if_pos c14] at h
        cases h
        exact g_sub [0, 1, 2, 3] rfl K13
      · rw [if_neg c14] at h
        refine g_aload_n (pc := 14) G dX6_findLeast_14 0 rfl ?_
        refine g_aload_n (pc := 15) G dX6_findLeast_15 1 rfl ?_
        refine g_aload_n (pc := 16) G dX6_findLeast_16 2 rfl ?_
        refine g_iload (pc := 17) G dX6_findLeast_17 4 rfl ?_
        obtain ⟨V16, e15, h⟩ := bd_e h
        refine g_callV (pc := 19) (As := [rv b (some p1), rv b (some p2), .int v8]) (rest := []) (st2 := []) G (c_Sc_weigh l D ca b k_this k_p1 k_p2 e15) (mb_Sc_weigh G.2.2.2.2.1) (q563 G.2.2.2.2.1) (q6 G.2.2.2.2.1) (q561 G.2.2.2.2.1) ci_5 k_this rfl rfl (Nat.le_of_ble_eq_true rfl) ⟨Nat.le_trans (Nat.le_of_ble_eq_true rfl) hR.1, Nat.le_trans (Nat.le_of_ble_eq_true rfl) hR.2⟩ ⟨Nat.zero_le _, Nat.zero_le _⟩ rfl rfl dX6_findLeast_19 ?_
        refine g_iinc (v := v8 + (-1)) (L' := [(4, .int (v8 + (-1))), (0, rv b (some this)), (1, rv b (some p1)), (2, rv b (some p2)), (3, rv b (some p3))]) (pc := 22) G dX6_findLeast_22 4 rfl rfl (by decide) rfl ?_
        refine g_goto (pc := 25) G 9 dX6_findLeast_25 (by decide) ?_
        exact g_sub [1, 2, 3, 4, 0] rfl (ih10 _ _ _ h K13)
  obtain ⟨V12, e17, h⟩ := bd_e h
  refine g_sub [1, 2, 3, 4, 0] rfl (LP11 _ _ _ _ e17 ?_)
  refine g_aload_n (pc := 28) G dX6_findLeast_28 3 rfl ?_
  obtain ⟨V19, e18, h⟩ := bd_e h
  refine g_callV (pc := 29) (As := []) (rest := []) (st2 := []) G (c_Ro_clear l D ca b k_p3 e18) (mb_Ro_clear G.2.2.2.2.1) (q447 G.2.2.2.2.1) (q448 G.2.2.2.2.1) (q578 G.2.2.2.2.1) ci_4 k_p3 rfl rfl (Nat.le_of_ble_eq_true rfl) ⟨Nat.le_trans (Nat.le_of_ble_eq_true rfl) hR.1, Nat.le_trans (Nat.le_of_ble_eq_true rfl) hR.2⟩ ⟨Nat.zero_le _, Nat.zero_le _⟩ rfl rfl dX6_findLeast_29 ?_
  refine g_iconst (pc := 32) G (v := 0) dX6_findLeast_32 (by decide) ?_
  refine g_istore (L' := [(4, .int 0), (0, rv b (some this)), (1, rv b (some p1)), (2, rv b (some p2)), (3, rv b (some p3))]) (pc := 33) G dX6_findLeast_33 (by decide) rfl ?_
  refine g_iconst (pc := 35) G (v := 0) dX6_findLeast_35 (by decide) ?_
  refine g_istore (L' := [(5, .int 0), (4, .int 0), (0, rv b (some this)), (1, rv b (some p1)), (2, rv b (some p2)), (3, rv b (some p3))]) (pc := 36) G dX6_findLeast_36 (by decide) rfl ?_
  have LP25 : ∀ (n20 : Nat) (V23 : Vx) (v21 : Int32) (v22 : Int32), Sc_findLeast_L38 T this p1 p2 p3 n20 V23 v21 v22 = some Vf → WG p l e R s m args below meth c D ca b 7 (QG D ca b none T Vf below args s 0 0) 0 0 T V23 38 [(0, rv b (some this)), (1, rv b (some p1)), (2, rv b (some p2)), (3, rv b (some p3)), (4, .int v21), (5, .int v22)] [] := by
    intro n20
    induction n20 with
    | zero =>
      intro V23 v21 v22 h
      cases h
    | succ n20 ih24 =>
      intro V23 v21 v22 h
      rw [Sc_findLeast_L38.eq_def] at h
      dsimp only at h
      refine g_iload (pc := 38) G dX6_findLeast_38 5 rfl ?_
      refine g_bipush (pc := 40) G (v := 8) dX6_findLeast_40 (by decide) ?_
      refine g_icmp_ge (pc := 42) G 104 dX6_findLeast_42 (by decide) (fun c26 => ?_) (fun c26 => ?_)
      · rw [if_pos c26] at h
        cases h
        exact g_vret (pc := 104) G dX6_findLeast_104
      · rw [if_neg c26] at h
        refine g_iload (pc := 45) G dX6_findLeast_45 4 rfl ?_
        refine g_if_lt (pc := 47) G 104 dX6_findLeast_47 (by decide) (fun c27 => ?_) (fun c27 => ?_)
        · rw [if_pos c27] at h
          cases h
          exact g_vret (pc := 104) G dX6_findLeast_104
        · rw [if_neg c27] at h
          refine g_iload (pc := 50) G dX6_findLeast_50 4 rfl ?_
          refine g_bipush (pc := 52) G (v := 8) dX6_findLeast_52 (by decide) ?_
          refine g_icmp_gt (pc := 54) G 104 dX6_findLeast_54 (by decide) (fun c28 => ?_) (fun c28 => ?_)
          · rw [if_pos c28] at h
            cases h
            exact g_vret (pc := 104) G dX6_findLeast_104
          · rw [if_neg c28] at h
            refine g_aload_n (pc := 57) G dX6_findLeast_57 1 rfl ?_
            refine g_aload_n (pc := 58) G dX6_findLeast_58 0 rfl ?_
            obtain ⟨r29, e30, h⟩ := bd_e h
            obtain ⟨f31, k32⟩ := ck_e e30
            refine g_getR (pc := 59) G ci_5 (uw_5 G.2.2.2.2.1) (k := 3) (by decide) rfl rfl k_this (q139 G.2.2.2.2.1) dX6_findLeast_59 f31 ?_
            refine g_iload (pc := 62) G dX6_findLeast_62 4 rfl ?_
            obtain ⟨b33, h⟩ := gd_e h
            refine g_iald (pc := 64) G k32 b33 dX6_findLeast_64 ?_
            obtain ⟨r35, e34, h⟩ := bd_e h
            refine g_callV (pc := 65) (As := [.int (aI V23 r29 v21.toNatClampNeg)]) (rest := []) (st2 := [rv b r35]) G (c_Lx_signAt l D ca b k_p1 e34) (mb_Lx_signAt G.2.2.2.2.1) (q463 G.2.2.2.2.1) (q464 G.2.2.2.2.1) (q573 G.2.2.2.2.1) ci_2 k_p1 rfl rfl (Nat.le_of_ble_eq_true rfl) ⟨Nat.le_trans (Nat.le_of_ble_eq_true rfl) hR.1, Nat.le_trans (Nat.le_of_ble_eq_true rfl) hR.2⟩ ⟨Nat.zero_le _, Nat.zero_le _⟩ rfl rfl dX6_findLeast_65 ?_
            refine g_astore (L' := [(6, rv b r35), (0, rv b (some this)), (1, rv b (some p1)), (2, rv b (some p2)), (3, rv b (some p3)), (4, .int v21), (5, .int v22)]) (pc := 68) G dX6_findLeast_68 (by decide) rfl ?_
            refine g_aload (pc := 70) G dX6_findLeast_70 0 rfl ?_
            cases r35 with
            | none =>
              dsimp only at h
              refine g_ifnonnullN (pc := 72) G dX6_findLeast_72 ?_
              cases h
              exact g_vret (pc := 75) G dX6_findLeast_75
            | some r36 =>
              dsimp only at h
              refine g_ifnonnullS (pc := 72) G 76 dX6_findLeast_72 (by decide) ?_
              refine g_aload_n (pc := 76) G dX6_findLeast_76 4 rfl ?_
              refine g_aload_n (pc := 77) G dX6_findLeast_77 1 rfl ?_
              obtain ⟨r37, e38, h⟩ := bd_e h
              obtain ⟨f39, k40⟩ := ck_e e38
              refine g_getR (pc := 78) G ci_5 (uw_5 G.2.2.2.2.1) (k := 3) (by decide) rfl rfl k_this (q139 G.2.2.2.2.1) dX6_findLeast_78 f39 ?_
              refine g_iload (pc := 81) G dX6_findLeast_81 5 rfl ?_
              obtain ⟨b41, h⟩ := gd_e h
              refine g_iald (pc := 83) G k40 b41 dX6_findLeast_83 ?_
              obtain ⟨V43, e42, h⟩ := bd_e h
              refine g_callV (pc := 84) (As := [.int (aI V23 r37 v21.toNatClampNeg)]) (rest := []) (st2 := []) G (c_Ro_put l D ca b k_p3 e42) (mb_Ro_put G.2.2.2.2.1) (q504 G.2.2.2.2.1) (q505 G.2.2.2.2.1) (q579 G.2.2.2.2.1) ci_4 k_p3 rfl rfl (Nat.le_of_ble_eq_true rfl) ⟨Nat.le_trans (Nat.le_of_ble_eq_true rfl) hR.1, Nat.le_trans (Nat.le_of_ble_eq_true rfl) hR.2⟩ ⟨Nat.zero_le _, Nat.zero_le _⟩ rfl rfl dX6_findLeast_84 ?_
              refine g_aload_n (pc := 87) G dX6_findLeast_87 2 rfl ?_
              refine g_aload_n (pc := 88) G dX6_findLeast_88 3 rfl ?_
              refine g_iload (pc := 89) G dX6_findLeast_89 5 rfl ?_
              refine g_aload (pc := 91) G dX6_findLeast_91 0 rfl ?_
              obtain ⟨r46, e45, h⟩ := bd_e h
              have k44 : kd T r36 = 6 := by
                obtain ⟨ee, k0⟩ := ck_e e45
                cases ee
                exact k0
              obtain ⟨r48, e47, h⟩ := bd_e h
              refine g_callV (pc := 93) (As := [rv b (some p2), .int v21, rv b (some r36)]) (rest := []) (st2 := [.int r48]) G (c_Lx_placeBehind l D ca b k_p1 k_p2 k44 e47) (mb_Lx_placeBehind G.2.2.2.2.1) (q575 G.2.2.2.2.1) (q576 G.2.2.2.2.1) (q574 G.2.2.2.2.1) ci_2 k_p1 rfl rfl (Nat.le_of_ble_eq_true rfl) ⟨Nat.le_trans (Nat.le_of_ble_eq_true rfl) hR.1, Nat.le_trans (Nat.le_of_ble_eq_true rfl) hR.2⟩ ⟨Nat.zero_le _, Nat.zero_le _⟩ rfl rfl dX6_findLeast_93 ?_
              refine g_istore (L' := [(4, .int r48), (6, rv b (some r36)), (0, rv b (some this)), (1, rv b (some p1)), (2, rv b (some p2)), (3, rv b (some p3)), (5, .int v22)]) (pc := 96) G dX6_findLeast_96 (by decide) rfl ?_
              refine g_iinc (v := v22 + 1) (L' := [(5, .int (v22 + 1)), (4, .int r48), (6, rv b (some r36)), (0, rv b (some this)), (1, rv b (some p1)), (2, rv b (some p2)), (3, rv b (some p3))]) (pc := 98) G dX6_findLeast_98 6 rfl rfl (by decide) rfl ?_
              refine g_goto (pc := 101) G 38 dX6_findLeast_101 (by decide) ?_
              exact g_sub [3, 4, 5, 6, 1, 0] rfl (ih24 _ _ _ h)
  exact g_sub [2, 3, 4, 5, 1, 0] rfl (LP25 _ _ _ _ h)
theorem c_Sc_findLeast (l : Launch) (D : va_G) (ca : Nat → ClassId) (b : Nat) {T : Tx} {V : Vx} {this : Nat} {p1 : Nat} {p2 : Nat} {p3 : Nat}  {Vf : Vx} (k_this : kd T this = 5) (k_p1 : kd T p1 = 2) (k_p2 : kd T p2 = 7) (k_p3 : kd T p3 = 4) (h : Sc_findLeast T V this p1 p2 p3 = some Vf) : MG l yX6_findLeast cX6_findLeast 7 (Option.none : Option Jvm.ClassFile.FieldType) 3 76 0 0 D ca b [rv b (some this), rv b (some p1), rv b (some p2), rv b (some p3)] T V none T Vf :=
  MG.ofWG (L := [(0, rv b (some this)), (1, rv b (some p1)), (2, rv b (some p2)), (3, rv b (some p3))]) (by decide +kernel) rfl (Nat.le_of_ble_eq_true rfl) (fun _ _ _ _ _ _ _ G _ => w_Sc_findLeast G ⟨Nat.le_refl _, Nat.le_refl _⟩ k_this k_p1 k_p2 k_p3 h)
