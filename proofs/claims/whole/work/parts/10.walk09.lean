set_option maxHeartbeats 4000000 in
set_option maxRecDepth 100000 in
theorem w_Mo_count {p : Program} {l : Launch} {e : Env} {R : Room} {s : State} {m : MethodId} {args : Array Value} {below : List Frame} {meth : Method} {c : Code} {D : va_G} {ca : Nat → ClassId} {b : Nat} {T : Tx} {V : Vx} (G : GX p s m meth c cX10_count 7 (Option.some Jvm.ClassFile.FieldType.int) RX10 "count" D ca b) (hR : 8 ≤ R.frames ∧ 198 ≤ R.locals) {this : Nat} {p1 : Int32} {rr : Int32} {Vf : Vx} (k_this : kd T this = 9) (h : Mo_count T V this p1 = some (rr, Vf)) : WG p l e R s m args below meth c D ca b 7 (QG D ca b (some (.int rr)) T Vf below args s 0 0) 0 0 T V 0 [(0, rv b (some this)), (1, .int p1)] [] := by
  unfold Mo_count at h
  refine g_iconst (pc := 0) G (v := 0) dX10_count_0 (by decide) ?_
  refine g_istore_n (L' := [(2, .int 0), (0, rv b (some this)), (1, .int p1)]) (pc := 1) G dX10_count_1 (by decide) rfl ?_
  refine g_iconst (pc := 2) G (v := 0) dX10_count_2 (by decide) ?_
  refine g_istore_n (L' := [(3, .int 0), (2, .int 0), (0, rv b (some this)), (1, .int p1)]) (pc := 3) G dX10_count_3 (by decide) rfl ?_
  refine g_iconst (pc := 4) G (v := 0) dX10_count_4 (by decide) ?_
  refine g_istore (L' := [(4, .int 0), (3, .int 0), (2, .int 0), (0, rv b (some this)), (1, .int p1)]) (pc := 5) G dX10_count_5 (by decide) rfl ?_
  refine g_iconst (pc := 7) G (v := 0) dX10_count_7 (by decide) ?_
  refine g_istore (L' := [(5, .int 0), (4, .int 0), (3, .int 0), (2, .int 0), (0, rv b (some this)), (1, .int p1)]) (pc := 8) G dX10_count_8 (by decide) rfl ?_
  have LP8 : ∀ (n1 : Nat) (V6 : Vx) (v2 : Int32) (v3 : Int32) (v4 : Int32) (v5 : Int32) (y9 : Int32) (y10 : Int32) (y11 : Int32) (V12 : Vx), Mo_count_L10 T this p1 n1 V6 v2 v3 v4 v5 = some (y9, y10, y11, V12) → WG p l e R s m args below meth c D ca b 7 (QG D ca b (some (.int rr)) T Vf below args s 0 0) 0 0 T V12 116 [(0, rv b (some this)), (1, .int p1), (2, .int y9), (3, .int y10), (4, .int y11)] [] → WG p l e R s m args below meth c D ca b 7 (QG D ca b (some (.int rr)) T Vf below args s 0 0) 0 0 T V6 10 [(0, rv b (some this)), (1, .int p1), (2, .int v2), (3, .int v3), (4, .int v4), (5, .int v5)] [] := by
    intro n1
    induction n1 with
    | zero =>
      intro V6 v2 v3 v4 v5 y9 y10 y11 V12 h
      cases h
    | succ n1 ih7 =>
      intro V6 v2 v3 v4 v5 y9 y10 y11 V12 h K13
      rw [Mo_count_L10] at h
      refine g_iload (pc := 10) G dX10_count_10 5 rfl ?_
      refine g_aload_n (pc := 12) G dX10_count_12 0 rfl ?_
      obtain ⟨r14, e15, h⟩ := bd_e h
      obtain ⟨f16, k17⟩ := ck_e e15
      refine g_getR (pc := 13) G ci_9 (uw_9 G.2.2.2.2.1) (k := 3) (by decide) rfl rfl k_this (q777 G.2.2.2.2.1) dX10_count_13 f16 ?_
      refine g_sipush (pc := 16) G (v := 165) dX10_count_16 (by decide) ?_
      obtain ⟨b18, h⟩ := gd_e h
      refine g_iald (pc := 19) G k17 b18 dX10_count_19 ?_
      refine g_icmp_ge (pc := 20) G 116 dX10_count_20 (by decide) (fun c19 => ?_) (fun c19 => ?_)
      · rw [if_pos c19] at h
        cases h
        exact g_sub [0, 1, 2, 3, 4] rfl K13
      · rw [if_neg c19] at h
        refine g_iload_n (pc := 23) G dX10_count_23 1 rfl ?_
        refine g_i2l (pc := 24) G dX10_count_24 ?_
        refine g_ldc2 (pc := 25) G (v := 5) (q1065 G.2.2.2.2.1) dX10_count_25 ?_
        refine g_ldc2 (pc := 28) G (v := 7) (q1066 G.2.2.2.2.1) dX10_count_28 ?_
        obtain ⟨r21, e20, h⟩ := bd_e h
        refine g_callS (pc := 31) (As := [.long (Int32.toInt64 p1), .long 5, .long 7]) (rest := []) (st2 := [.int r21]) G (c_Mo_in l D ca b  e20) (mb_Mo_in G.2.2.2.2.1) (q842 G.2.2.2.2.1) (q841 G.2.2.2.2.1) rfl rfl (Nat.le_of_ble_eq_true rfl) ⟨Nat.le_trans (Nat.le_of_ble_eq_true rfl) hR.1, Nat.le_trans (Nat.le_of_ble_eq_true rfl) hR.2⟩ ⟨Nat.zero_le _, Nat.zero_le _⟩ rfl rfl dX10_count_31 ?_
        refine g_if_eq (pc := 34) G 116 dX10_count_34 (by decide) (fun c22 => ?_) (fun c22 => ?_)
        · rw [if_pos c22] at h
          cases h
          exact g_sub [0, 1, 2, 3, 4] rfl K13
        · rw [if_neg c22] at h
          refine g_iload_n (pc := 37) G dX10_count_37 2 rfl ?_
          refine g_aload_n (pc := 38) G dX10_count_38 0 rfl ?_
          refine g_iload (pc := 39) G dX10_count_39 5 rfl ?_
          obtain ⟨r25, V24, e23, h⟩ := bd2_e h
          refine g_callV (pc := 41) (As := [.int v5]) (rest := [.int v2]) (st2 := [.int r25, .int v2]) G (c_Mo_leasts l D ca b k_this e23) (mb_Mo_leasts G.2.2.2.2.1) (q933 G.2.2.2.2.1) (q29 G.2.2.2.2.1) (q931 G.2.2.2.2.1) ci_9 k_this rfl rfl (Nat.le_of_ble_eq_true rfl) ⟨Nat.le_trans (Nat.le_of_ble_eq_true rfl) hR.1, Nat.le_trans (Nat.le_of_ble_eq_true rfl) hR.2⟩ ⟨Nat.zero_le _, Nat.zero_le _⟩ rfl rfl dX10_count_41 ?_
          refine g_bipush (pc := 44) G (v := (-4)) dX10_count_44 (by decide) ?_
          obtain ⟨x26, hx28, h⟩ := bd_e h
          have K27 : WG p l e R s m args below meth c D ca b 7 (QG D ca b (some (.int rr)) T Vf below args s 0 0) 0 0 T V24 54 [(0, rv b (some this)), (1, .int p1), (3, .int v3), (4, .int v4), (5, .int v5)] [.int x26, .int v2] := by
            refine g_iadd (pc := 54) G dX10_count_54 ?_
            obtain ⟨x31, e32, h⟩ := lt_e h
            rw [e32]
            refine g_istore_n (L' := [(2, .int x31), (0, rv b (some this)), (1, .int p1), (3, .int v3), (4, .int v4), (5, .int v5)]) (pc := 55) G dX10_count_55 (by decide) rfl ?_
            refine g_iload_n (pc := 56) G dX10_count_56 3 rfl ?_
            refine g_aload_n (pc := 57) G dX10_count_57 1 rfl ?_
            refine g_iload (pc := 58) G dX10_count_58 5 rfl ?_
            obtain ⟨r35, V34, e33, h⟩ := bd2_e h
            refine g_callV (pc := 60) (As := [.int v5]) (rest := [.int v3]) (st2 := [.int r35, .int v3]) G (c_Mo_clear l D ca b k_this e33) (mb_Mo_clear G.2.2.2.2.1) (q993 G.2.2.2.2.1) (q43 G.2.2.2.2.1) (q991 G.2.2.2.2.1) ci_9 k_this rfl rfl (Nat.le_of_ble_eq_true rfl) ⟨Nat.le_trans (Nat.le_of_ble_eq_true rfl) hR.1, Nat.le_trans (Nat.le_of_ble_eq_true rfl) hR.2⟩ ⟨Nat.zero_le _, Nat.zero_le _⟩ rfl rfl dX10_count_60 ?_
            obtain ⟨x36, hx38, h⟩ := bd_e h
            have K37 : WG p l e R s m args below meth c D ca b 7 (QG D ca b (some (.int rr)) T Vf below args s 0 0) 0 0 T V34 71 [(0, rv b (some this)), (1, .int p1), (2, .int x31), (4, .int v4), (5, .int v5)] [.int x36, .int v3] := by
              refine g_iadd (pc := 71) G dX10_count_71 ?_
              obtain ⟨x41, e42, h⟩ := lt_e h
              rw [e42]
              refine g_istore_n (L' := [(3, .int x41), (0, rv b (some this)), (1, .int p1), (2, .int x31), (4, .int v4), (5, .int v5)]) (pc := 72) G dX10_count_72 (by decide) rfl ?_
              refine g_iconst (pc := 73) G (v := 0) dX10_count_73 (by decide) ?_
              refine g_istore (L' := [(6, .int 0), (3, .int x41), (0, rv b (some this)), (1, .int p1), (2, .int x31), (4, .int v4), (5, .int v5)]) (pc := 74) G dX10_count_74 (by decide) rfl ?_
              have LP48 : ∀ (n43 : Nat) (V46 : Vx) (v44 : Int32) (v45 : Int32) (y49 : Int32) (V50 : Vx), Mo_count_L76 T this p1 x31 x41 v5 n43 V46 v44 v45 = some (y49, V50) → WG p l e R s m args below meth c D ca b 7 (QG D ca b (some (.int rr)) T Vf below args s 0 0) 0 0 T V50 110 [(0, rv b (some this)), (1, .int p1), (2, .int x31), (3, .int x41), (4, .int y49), (5, .int v5)] [] → WG p l e R s m args below meth c D ca b 7 (QG D ca b (some (.int rr)) T Vf below args s 0 0) 0 0 T V46 76 [(0, rv b (some this)), (1, .int p1), (2, .int x31), (3, .int x41), (4, .int v44), (5, .int v5), (6, .int v45)] [] := by
                intro n43
                induction n43 with
                | zero =>
                  intro V46 v44 v45 y49 V50 h
                  cases h
                | succ n43 ih47 =>
                  intro V46 v44 v45 y49 V50 h K51
                  rw [Mo_count_L76] at h
                  refine g_iload (pc := 76) G dX10_count_76 6 rfl ?_
                  refine g_iload (pc := 78) G dX10_count_78 5 rfl ?_
                  refine g_icmp_ge (pc := 80) G 110 dX10_count_80 (by decide) (fun c52 => ?_) (fun c52 => ?_)
                  · rw [if_pos c52] at h
                    cases h
                    exact g_sub [0, 1, 2, 3, 4, 5] rfl K51
                  · rw [if_neg c52] at h
                    refine g_iload (pc := 83) G dX10_count_83 4 rfl ?_
                    refine g_aload_n (pc := 85) G dX10_count_85 0 rfl ?_
                    refine g_iload (pc := 86) G dX10_count_86 6 rfl ?_
                    refine g_iload (pc := 88) G dX10_count_88 5 rfl ?_
                    obtain ⟨r55, V54, e53, h⟩ := bd2_e h
                    refine g_callV (pc := 90) (As := [.int v45, .int v5]) (rest := [.int v44]) (st2 := [.int r55, .int v44]) G (c_Mo_areMixed l D ca b k_this e53) (mb_Mo_areMixed G.2.2.2.2.1) (q1013 G.2.2.2.2.1) (q48 G.2.2.2.2.1) (q1011 G.2.2.2.2.1) ci_9 k_this rfl rfl (Nat.le_of_ble_eq_true rfl) ⟨Nat.le_trans (Nat.le_of_ble_eq_true rfl) hR.1, Nat.le_trans (Nat.le_of_ble_eq_true rfl) hR.2⟩ ⟨Nat.zero_le _, Nat.zero_le _⟩ rfl rfl dX10_count_90 ?_
                    refine g_if_eq (pc := 93) G 100 dX10_count_93 (by decide) (fun c56 => ?_) (fun c56 => ?_)
                    · rw [if_pos c56] at h
                      refine g_iconst (pc := 100) G (v := 0) dX10_count_100 (by decide) ?_
                      refine g_iadd (pc := 101) G dX10_count_101 ?_
                      obtain ⟨x57, e58, h⟩ := lt_e h
                      rw [e58]
                      refine g_istore (L' := [(4, .int x57), (0, rv b (some this)), (1, .int p1), (2, .int x31), (3, .int x41), (5, .int v5), (6, .int v45)]) (pc := 102) G dX10_count_102 (by decide) rfl ?_
                      refine g_iinc (v := v45 + 1) (L' := [(6, .int (v45 + 1)), (4, .int x57), (0, rv b (some this)), (1, .int p1), (2, .int x31), (3, .int x41), (5, .int v5)]) (pc := 104) G dX10_count_104 6 rfl rfl (by decide) rfl ?_
                      refine g_goto (pc := 107) G 76 dX10_count_107 (by decide) ?_
                      exact g_sub [2, 3, 4, 5, 1, 6, 0] rfl (ih47 _ _ _ _ _ h K51)
                    · rw [if_neg c56] at h
                      refine g_iconst (pc := 96) G (v := 1) dX10_count_96 (by decide) ?_
                      refine g_goto (pc := 97) G 101 dX10_count_97 (by decide) ?_
                      refine g_iadd (pc := 101) G dX10_count_101 ?_
                      obtain ⟨x59, e60, h⟩ := lt_e h
                      rw [e60]
                      refine g_istore (L' := [(4, .int x59), (0, rv b (some this)), (1, .int p1), (2, .int x31), (3, .int x41), (5, .int v5), (6, .int v45)]) (pc := 102) G dX10_count_102 (by decide) rfl ?_
                      refine g_iinc (v := v45 + 1) (L' := [(6, .int (v45 + 1)), (4, .int x59), (0, rv b (some this)), (1, .int p1), (2, .int x31), (3, .int x41), (5, .int v5)]) (pc := 104) G dX10_count_104 6 rfl rfl (by decide) rfl ?_
                      refine g_goto (pc := 107) G 76 dX10_count_107 (by decide) ?_
                      exact g_sub [2, 3, 4, 5, 1, 6, 0] rfl (ih47 _ _ _ _ _ h K51)
              obtain ⟨y49, V50, e61, h⟩ := bd2_e h
              refine g_sub [2, 3, 4, 1, 5, 6, 0] rfl (LP48 _ _ _ _ _ _ e61 ?_)
              refine g_iinc (v := v5 + 1) (L' := [(5, .int (v5 + 1)), (0, rv b (some this)), (1, .int p1), (2, .int x31), (3, .int x41), (4, .int y49)]) (pc := 110) G dX10_count_110 5 rfl rfl (by decide) rfl ?_
              refine g_goto (pc := 113) G 10 dX10_count_113 (by decide) ?_
              exact g_sub [1, 2, 3, 4, 5, 0] rfl (ih7 _ _ _ _ _ _ _ _ _ h K13)
            refine g_if_le (pc := 63) G 70 dX10_count_63 (by decide) (fun c40 => ?_) (fun c40 => ?_)
            · rw [if_pos c40] at hx38
              refine g_iconst (pc := 70) G (v := 0) dX10_count_70 (by decide) ?_
              cases hx38
              exact g_sub [1, 2, 0, 4, 5] rfl K37
            · rw [if_neg c40] at hx38
              refine g_iconst (pc := 66) G (v := 1) dX10_count_66 (by decide) ?_
              refine g_goto (pc := 67) G 71 dX10_count_67 (by decide) ?_
              cases hx38
              exact g_sub [1, 2, 0, 4, 5] rfl K37
          refine g_icmp_eq (pc := 46) G 53 dX10_count_46 (by decide) (fun c30 => ?_) (fun c30 => ?_)
          · rw [if_pos c30] at hx28
            refine g_iconst (pc := 53) G (v := 0) dX10_count_53 (by decide) ?_
            cases hx28
            exact g_sub [0, 1, 3, 4, 5] rfl K27
          · rw [if_neg c30] at hx28
            refine g_iconst (pc := 49) G (v := 1) dX10_count_49 (by decide) ?_
            refine g_goto (pc := 50) G 54 dX10_count_50 (by decide) ?_
            cases hx28
            exact g_sub [0, 1, 3, 4, 5] rfl K27
  obtain ⟨y9, y10, y11, V12, e62, h⟩ := bd4_e h
  refine g_sub [4, 5, 3, 2, 1, 0] rfl (LP8 _ _ _ _ _ _ _ _ _ _ e62 ?_)
  refine g_iload_n (pc := 116) G dX10_count_116 1 rfl ?_
  by_cases c63 : p1 = 0
  · rw [if_pos c63] at h
    have K69 : WG p l e R s m args below meth c D ca b 7 (QG D ca b (some (.int rr)) T Vf below args s 0 0) 0 0 T V12 172 [(0, rv b (some this)), (1, .int p1), (2, .int y9), (3, .int y10), (4, .int y11)] [] := by
      refine g_aload_n (pc := 172) G dX10_count_172 0 rfl ?_
      obtain ⟨r64, e65, h⟩ := bd_e h
      obtain ⟨f66, k67⟩ := ck_e e65
      refine g_getR (pc := 173) G ci_9 (uw_9 G.2.2.2.2.1) (k := 3) (by decide) rfl rfl k_this (q777 G.2.2.2.2.1) dX10_count_173 f66 ?_
      refine g_sipush (pc := 176) G (v := 164) dX10_count_176 (by decide) ?_
      obtain ⟨b68, h⟩ := gd_e h
      refine g_iald (pc := 179) G k67 b68 dX10_count_179 ?_
      cases h
      exact g_iret (pc := 180) G dX10_count_180
    exact g_tabI (pc := 117) G 172 dX10_count_117 (by rw [c63] <;> decide) (by rw [c63] <;> decide) (by rw [c63] <;> rfl) (by decide) K69
  · rw [if_neg c63] at h
    by_cases c70 : p1 = 1
    · rw [if_pos c70] at h
      have K76 : WG p l e R s m args below meth c D ca b 7 (QG D ca b (some (.int rr)) T Vf below args s 0 0) 0 0 T V12 181 [(0, rv b (some this)), (1, .int p1), (2, .int y9), (3, .int y10), (4, .int y11)] [] := by
        refine g_aload_n (pc := 181) G dX10_count_181 0 rfl ?_
        obtain ⟨r71, e72, h⟩ := bd_e h
        obtain ⟨f73, k74⟩ := ck_e e72
        refine g_getR (pc := 182) G ci_9 (uw_9 G.2.2.2.2.1) (k := 3) (by decide) rfl rfl k_this (q777 G.2.2.2.2.1) dX10_count_182 f73 ?_
        refine g_sipush (pc := 185) G (v := 165) dX10_count_185 (by decide) ?_
        obtain ⟨b75, h⟩ := gd_e h
        refine g_iald (pc := 188) G k74 b75 dX10_count_188 ?_
        cases h
        exact g_iret (pc := 189) G dX10_count_189
      exact g_tabI (pc := 117) G 181 dX10_count_117 (by rw [c70] <;> decide) (by rw [c70] <;> decide) (by rw [c70] <;> rfl) (by decide) K76
    · rw [if_neg c70] at h
      by_cases c77 : p1 = 2
      · rw [if_pos c77] at h
        have K83 : WG p l e R s m args below meth c D ca b 7 (QG D ca b (some (.int rr)) T Vf below args s 0 0) 0 0 T V12 190 [(0, rv b (some this)), (1, .int p1), (2, .int y9), (3, .int y10), (4, .int y11)] [] := by
          refine g_aload_n (pc := 190) G dX10_count_190 0 rfl ?_
          obtain ⟨r78, e79, h⟩ := bd_e h
          obtain ⟨f80, k81⟩ := ck_e e79
          refine g_getR (pc := 191) G ci_9 (uw_9 G.2.2.2.2.1) (k := 5) (by decide) rfl rfl k_this (q779 G.2.2.2.2.1) dX10_count_191 f80 ?_
          refine g_iconst (pc := 194) G (v := 0) dX10_count_194 (by decide) ?_
          obtain ⟨b82, h⟩ := gd_e h
          refine g_iald (pc := 195) G k81 b82 dX10_count_195 ?_
          cases h
          exact g_iret (pc := 196) G dX10_count_196
        exact g_tabI (pc := 117) G 190 dX10_count_117 (by rw [c77] <;> decide) (by rw [c77] <;> decide) (by rw [c77] <;> rfl) (by decide) K83
      · rw [if_neg c77] at h
        by_cases c84 : p1 = 3
        · rw [if_pos c84] at h
          have K92 : WG p l e R s m args below meth c D ca b 7 (QG D ca b (some (.int rr)) T Vf below args s 0 0) 0 0 T V12 197 [(0, rv b (some this)), (1, .int p1), (2, .int y9), (3, .int y10), (4, .int y11)] [] := by
            refine g_aload_n (pc := 197) G dX10_count_197 0 rfl ?_
            obtain ⟨r85, e86, h⟩ := bd_e h
            obtain ⟨f87, k88⟩ := ck_e e86
            refine g_getR (pc := 198) G ci_9 (uw_9 G.2.2.2.2.1) (k := 5) (by decide) rfl rfl k_this (q779 G.2.2.2.2.1) dX10_count_198 f87 ?_
            refine g_iconst (pc := 201) G (v := 1) dX10_count_201 (by decide) ?_
            obtain ⟨b89, h⟩ := gd_e h
            refine g_iald (pc := 202) G k88 b89 dX10_count_202 ?_
            obtain ⟨r91, e90, h⟩ := bd_e h
            refine g_callS (pc := 203) (As := [.int (aI V12 r85 (1 : Int32).toNatClampNeg)]) (rest := []) (st2 := [.int r91]) G (c_Mo_bits l D ca b  e90) (mb_Mo_bits G.2.2.2.2.1) (q908 G.2.2.2.2.1) (q907 G.2.2.2.2.1) rfl rfl (Nat.le_of_ble_eq_true rfl) ⟨Nat.le_trans (Nat.le_of_ble_eq_true rfl) hR.1, Nat.le_trans (Nat.le_of_ble_eq_true rfl) hR.2⟩ ⟨Nat.zero_le _, Nat.zero_le _⟩ rfl rfl dX10_count_203 ?_
            cases h
            exact g_iret (pc := 206) G dX10_count_206
          exact g_tabI (pc := 117) G 197 dX10_count_117 (by rw [c84] <;> decide) (by rw [c84] <;> decide) (by rw [c84] <;> rfl) (by decide) K92
        · rw [if_neg c84] at h
          by_cases c93 : p1 = 4
          · rw [if_pos c93] at h
            have K99 : WG p l e R s m args below meth c D ca b 7 (QG D ca b (some (.int rr)) T Vf below args s 0 0) 0 0 T V12 207 [(0, rv b (some this)), (1, .int p1), (2, .int y9), (3, .int y10), (4, .int y11)] [] := by
              refine g_aload_n (pc := 207) G dX10_count_207 0 rfl ?_
              obtain ⟨r94, e95, h⟩ := bd_e h
              obtain ⟨f96, k97⟩ := ck_e e95
              refine g_getR (pc := 208) G ci_9 (uw_9 G.2.2.2.2.1) (k := 5) (by decide) rfl rfl k_this (q779 G.2.2.2.2.1) dX10_count_208 f96 ?_
              refine g_iconst (pc := 211) G (v := 2) dX10_count_211 (by decide) ?_
              obtain ⟨b98, h⟩ := gd_e h
              refine g_iald (pc := 212) G k97 b98 dX10_count_212 ?_
              cases h
              exact g_iret (pc := 213) G dX10_count_213
            exact g_tabI (pc := 117) G 207 dX10_count_117 (by rw [c93] <;> decide) (by rw [c93] <;> decide) (by rw [c93] <;> rfl) (by decide) K99
          · rw [if_neg c93] at h
            by_cases c100 : p1 = 5
            · rw [if_pos c100] at h
              have K101 : WG p l e R s m args below meth c D ca b 7 (QG D ca b (some (.int rr)) T Vf below args s 0 0) 0 0 T V12 214 [(0, rv b (some this)), (1, .int p1), (2, .int y9), (3, .int y10), (4, .int y11)] [] := by
                refine g_iload_n (pc := 214) G dX10_count_214 2 rfl ?_
                cases h
                exact g_iret (pc := 215) G dX10_count_215
              exact g_tabI (pc := 117) G 214 dX10_count_117 (by rw [c100] <;> decide) (by rw [c100] <;> decide) (by rw [c100] <;> rfl) (by decide) K101
            · rw [if_neg c100] at h
              by_cases c102 : p1 = 6
              · rw [if_pos c102] at h
                have K103 : WG p l e R s m args below meth c D ca b 7 (QG D ca b (some (.int rr)) T Vf below args s 0 0) 0 0 T V12 216 [(0, rv b (some this)), (1, .int p1), (2, .int y9), (3, .int y10), (4, .int y11)] [] := by
                  refine g_iload_n (pc := 216) G dX10_count_216 3 rfl ?_
                  cases h
                  exact g_iret (pc := 217) G dX10_count_217
                exact g_tabI (pc := 117) G 216 dX10_count_117 (by rw [c102] <;> decide) (by rw [c102] <;> decide) (by rw [c102] <;> rfl) (by decide) K103
              · rw [if_neg c102] at h
                by_cases c104 : p1 = 7
                · rw [if_pos c104] at h
                  have K105 : WG p l e R s m args below meth c D ca b 7 (QG D ca b (some (.int rr)) T Vf below args s 0 0) 0 0 T V12 218 [(0, rv b (some this)), (1, .int p1), (2, .int y9), (3, .int y10), (4, .int y11)] [] := by
                    refine g_iload (pc := 218) G dX10_count_218 4 rfl ?_
                    cases h
                    exact g_iret (pc := 220) G dX10_count_220
                  exact g_tabI (pc := 117) G 218 dX10_count_117 (by rw [c104] <;> decide) (by rw [c104] <;> decide) (by rw [c104] <;> rfl) (by decide) K105
                · rw [if_neg c104] at h
                  by_cases c106 : p1 = 8
                  · rw [if_pos c106] at h
                    have K107 : WG p l e R s m args below meth c D ca b 7 (QG D ca b (some (.int rr)) T Vf below args s 0 0) 0 0 T V12 221 [(0, rv b (some this)), (1, .int p1), (2, .int y9), (3, .int y10), (4, .int y11)] [] := by
                      refine g_aload_n (pc := 221) G dX10_count_221 0 rfl ?_
                      refine g_getI (pc := 222) G ci_9 (uw_9 G.2.2.2.2.1) (k := 7) (by decide) rfl rfl k_this (q781 G.2.2.2.2.1) dX10_count_222 ?_
                      cases h
                      exact g_iret (pc := 225) G dX10_count_225
                    exact g_tabI (pc := 117) G 221 dX10_count_117 (by rw [c106] <;> decide) (by rw [c106] <;> decide) (by rw [c106] <;> rfl) (by decide) K107
                  · rw [if_neg c106] at h
                    by_cases c108 : p1 = 9
                    · rw [if_pos c108] at h
                      have K109 : WG p l e R s m args below meth c D ca b 7 (QG D ca b (some (.int rr)) T Vf below args s 0 0) 0 0 T V12 226 [(0, rv b (some this)), (1, .int p1), (2, .int y9), (3, .int y10), (4, .int y11)] [] := by
                        refine g_aload_n (pc := 226) G dX10_count_226 0 rfl ?_
                        refine g_getI (pc := 227) G ci_9 (uw_9 G.2.2.2.2.1) (k := 0) (by decide) rfl rfl k_this (q774 G.2.2.2.2.1) dX10_count_227 ?_
                        cases h
                        exact g_iret (pc := 230) G dX10_count_230
                      exact g_tabI (pc := 117) G 226 dX10_count_117 (by rw [c108] <;> decide) (by rw [c108] <;> decide) (by rw [c108] <;> rfl) (by decide) K109
                    · rw [if_neg c108] at h
                      have K110 : WG p l e R s m args below meth c D ca b 7 (QG D ca b (some (.int rr)) T Vf below args s 0 0) 0 0 T V12 231 [(0, rv b (some this)), (1, .int p1), (2, .int y9), (3, .int y10), (4, .int y11)] [] := by
                        refine g_iconst (pc := 231) G (v := (-1)) dX10_count_231 (by decide) ?_
                        cases h
                        exact g_iret (pc := 232) G dX10_count_232
                      have c63T := lv_neT (a := 0) c63 (by decide)
                      have c70T := lv_neT (a := 1) c70 (by decide)
                      have c77T := lv_neT (a := 2) c77 (by decide)
                      have c84T := lv_neT (a := 3) c84 (by decide)
                      have c93T := lv_neT (a := 4) c93 (by decide)
                      have c100T := lv_neT (a := 5) c100 (by decide)
                      have c102T := lv_neT (a := 6) c102 (by decide)
                      have c104T := lv_neT (a := 7) c104 (by decide)
                      have c106T := lv_neT (a := 8) c106 (by decide)
                      have c108T := lv_neT (a := 9) c108 (by decide)
                      exact g_tabO (pc := 117) G 231 dX10_count_117 (by omega) (by decide) K110
theorem c_Mo_count (l : Launch) (D : va_G) (ca : Nat → ClassId) (b : Nat) {T : Tx} {V : Vx} {this : Nat} {p1 : Int32} {rr : Int32} {Vf : Vx} (k_this : kd T this = 9) (h : Mo_count T V this p1 = some (rr, Vf)) : MG l yX10_count cX10_count 7 (Option.some Jvm.ClassFile.FieldType.int) 8 198 0 0 D ca b [rv b (some this), .int p1] T V (some (.int rr)) T Vf :=
  MG.ofWG (L := [(0, rv b (some this)), (1, .int p1)]) (by decide +kernel) rfl (Nat.le_of_ble_eq_true rfl) (fun _ _ _ _ _ _ _ G _ => w_Mo_count G ⟨Nat.le_refl _, Nat.le_refl _⟩ k_this h)
