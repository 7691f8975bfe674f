set_option maxHeartbeats 4000000 in
set_option maxRecDepth 100000 in
theorem w_Lx_lettersOf {p : Program} {l : Launch} {e : Env} {R : Room} {s : State} {m : MethodId} {args : Array Value} {below : List Frame} {meth : Method} {c : Code} {D : va_G} {ca : Nat → ClassId} {b : Nat} {T : Tx} {V : Vx} (G : GX p s m meth c cX2_lettersOf 5 (Option.some Jvm.ClassFile.FieldType.int) RX2 "lettersOf" D ca b) (hR : 1 ≤ R.frames ∧ 21 ≤ R.locals) {this : Nat} {p1 : Nat} {rr : Int32}  (k_this : kd T this = 2) (k_p1 : kd T p1 = 4) (h : Lx_lettersOf T V this p1 = some rr) : WG p l e R s m args below meth c D ca b 5 (QG D ca b (some (.int rr)) T V below args s 0 0) 0 0 T V 0 [(0, rv b (some this)), (1, rv b (some p1))] [] := by
  unfold Lx_lettersOf at h
  refine g_iconst (pc := 0) G (v := 0) dX2_lettersOf_0 (by decide) ?_
  refine g_istore_n (L' := [(2, .int 0), (0, rv b (some this)), (1, rv b (some p1))]) (pc := 1) G dX2_lettersOf_1 (by decide) rfl ?_
  refine g_iconst (pc := 2) G (v := 0) dX2_lettersOf_2 (by decide) ?_
  refine g_istore_n (L' := [(3, .int 0), (2, .int 0), (0, rv b (some this)), (1, rv b (some p1))]) (pc := 3) G dX2_lettersOf_3 (by decide) rfl ?_
  have LP5 : ∀ (n1 : Nat) (v2 : Int32) (v3 : Int32), Lx_lettersOf_L4 T V this p1 n1 v2 v3 = some rr → WG p l e R s m args below meth c D ca b 5 (QG D ca b (some (.int rr)) T V below args s 0 0) 0 0 T V 4 [(0, rv b (some this)), (1, rv b (some p1)), (2, .int v2), (3, .int v3)] [] := by
    intro n1
    induction n1 with
    | zero =>
      intro v2 v3 h
      cases h
    | succ n1 ih4 =>
      intro v2 v3 h
      rw [Lx_lettersOf_L4.eq_def] at h
      dsimp only at h
      refine g_iload_n (pc := 4) G dX2_lettersOf_4 3 rfl ?_
      refine g_aload_n (pc := 5) G dX2_lettersOf_5 1 rfl ?_
      obtain ⟨r7, e6, h⟩ := bd_e h
      refine g_callV (pc := 6) (As := []) (rest := [.int v3]) (st2 := [.int r7, .int v3]) G (c_Ro_size l D ca b k_p1 e6) (mb_Ro_size G.2.2.2.2.1) (q508 G.2.2.2.2.1) (q509 G.2.2.2.2.1) (q654 G.2.2.2.2.1) ci_4 k_p1 rfl rfl (Nat.le_of_ble_eq_true rfl) ⟨Nat.le_trans (Nat.le_of_ble_eq_true rfl) hR.1, Nat.le_trans (Nat.le_of_ble_eq_true rfl) hR.2⟩ ⟨Nat.zero_le _, Nat.zero_le _⟩ rfl rfl dX2_lettersOf_6 ?_
      refine g_icmp_ge (pc := 9) G 45 dX2_lettersOf_9 (by decide) (fun c8 => ?_) (fun c8 => ?_)
      · rw [if_pos c8] at h
        refine g_iload_n (pc := 45) G dX2_lettersOf_45 2 rfl ?_
        cases h
        exact g_iret (pc := 46) G dX2_lettersOf_46
      · rw [if_neg c8] at h
        refine g_aload_n (pc := 12) G dX2_lettersOf_12 0 rfl ?_
        refine g_aload_n (pc := 13) G dX2_lettersOf_13 1 rfl ?_
        refine g_iload_n (pc := 14) G dX2_lettersOf_14 3 rfl ?_
        obtain ⟨r10, e9, h⟩ := bd_e h
        refine g_callV (pc := 15) (As := [.int v3]) (rest := [rv b (some this)]) (st2 := [.int r10, rv b (some this)]) G (c_Ro_at l D ca b k_p1 e9) (mb_Ro_at G.2.2.2.2.1) (q520 G.2.2.2.2.1) (q521 G.2.2.2.2.1) (q655 G.2.2.2.2.1) ci_4 k_p1 rfl rfl (Nat.le_of_ble_eq_true rfl) ⟨Nat.le_trans (Nat.le_of_ble_eq_true rfl) hR.1, Nat.le_trans (Nat.le_of_ble_eq_true rfl) hR.2⟩ ⟨Nat.zero_le _, Nat.zero_le _⟩ rfl rfl dX2_lettersOf_15 ?_
        obtain ⟨r12, e11, h⟩ := bd_e h
        refine g_callV (pc := 18) (As := [.int r10]) (rest := []) (st2 := [rv b r12]) G (c_Lx_signAt l D ca b k_this e11) (mb_Lx_signAt G.2.2.2.2.1) (q463 G.2.2.2.2.1) (q464 G.2.2.2.2.1) (q482 G.2.2.2.2.1) ci_2 k_this rfl rfl (Nat.le_of_ble_eq_true rfl) ⟨Nat.le_trans (Nat.le_of_ble_eq_true rfl) hR.1, Nat.le_trans (Nat.le_of_ble_eq_true rfl) hR.2⟩ ⟨Nat.zero_le _, Nat.zero_le _⟩ rfl rfl dX2_lettersOf_18 ?_
        refine g_astore (L' := [(4, rv b r12), (0, rv b (some this)), (1, rv b (some p1)), (2, .int v2), (3, .int v3)]) (pc := 21) G dX2_lettersOf_21 (by decide) rfl ?_
        refine g_aload (pc := 23) G dX2_lettersOf_23 0 rfl ?_
        cases r12 with
        | none =>
          dsimp only at h
          refine g_ifnullN (pc := 25) G 39 dX2_lettersOf_25 (by decide) ?_
          refine g_iinc (v := v3 + 1) (L' := [(3, .int (v3 + 1)), (4, rv b none), (0, rv b (some this)), (1, rv b (some p1)), (2, .int v2)]) (pc := 39) G dX2_lettersOf_39 4 rfl rfl (by decide) rfl ?_
          refine g_goto (pc := 42) G 4 dX2_lettersOf_42 (by decide) ?_
          exact g_sub [2, 3, 4, 0] rfl (ih4 _ _ h)
        | some r13 =>
          dsimp only at h
          refine g_ifnullS (pc := 25) G dX2_lettersOf_25 ?_
          refine g_iload_n (pc := 28) G dX2_lettersOf_28 3 rfl ?_
          refine g_aload (pc := 29) G dX2_lettersOf_29 0 rfl ?_
          obtain ⟨r16, e15, h⟩ := bd_e h
          have k14 : kd T r13 = 6 := by
            obtain ⟨ee, k0⟩ := ck_e e15
            cases ee
            exact k0
          obtain ⟨r17, e18, h⟩ := bd_e h
          obtain ⟨f19, k20⟩ := ck_e e18
          refine g_getRN (pc := 31) G ci_6 (uw_6 G.2.2.2.2.1) (k := 0) (by decide) rfl rfl k14 (q256 G.2.2.2.2.1) dX2_lettersOf_31 f19 ?_
          obtain ⟨r22, e21, h⟩ := bd_e h
          refine g_callV (pc := 34) (As := []) (rest := [.int v2]) (st2 := [.int r22, .int v2]) G (c_Le_size l D ca b k20 e21) (mb_Le_size G.2.2.2.2.1) (q332 G.2.2.2.2.1) (q333 G.2.2.2.2.1) (q391 G.2.2.2.2.1) ci_1 k20 rfl rfl (Nat.le_of_ble_eq_true rfl) ⟨Nat.le_trans (Nat.le_of_ble_eq_true rfl) hR.1, Nat.le_trans (Nat.le_of_ble_eq_true rfl) hR.2⟩ ⟨Nat.zero_le _, Nat.zero_le _⟩ rfl rfl dX2_lettersOf_34 ?_
          refine g_iadd (pc := 37) G dX2_lettersOf_37 ?_
          obtain ⟨x23, e24, h⟩ := lt_e h
          rw [e24]
          refine g_istore_n (L' := [(2, .int x23), (4, rv b (some r13)), (0, rv b (some this)), (1, rv b (some p1)), (3, .int v3)]) (pc := 38) G dX2_lettersOf_38 (by decide) rfl ?_
          refine g_iinc (v := v3 + 1) (L' := [(3, .int (v3 + 1)), (2, .int x23), (4, rv b (some r13)), (0, rv b (some this)), (1, rv b (some p1))]) (pc := 39) G dX2_lettersOf_39 4 rfl rfl (by decide) rfl ?_
          refine g_goto (pc := 42) G 4 dX2_lettersOf_42 (by decide) ?_
          exact g_sub [3, 4, 1, 0] rfl (ih4 _ _ h)
  exact g_sub [2, 3, 1, 0] rfl (LP5 _ _ _ h)
theorem c_Lx_lettersOf (l : Launch) (D : va_G) (ca : Nat → ClassId) (b : Nat) {T : Tx} {V : Vx} {this : Nat} {p1 : Nat} {rr : Int32}  (k_this : kd T this = 2) (k_p1 : kd T p1 = 4) (h : Lx_lettersOf T V this p1 = some rr) : MG l yX2_lettersOf cX2_lettersOf 5 (Option.some Jvm.ClassFile.FieldType.int) 1 21 0 0 D ca b [rv b (some this), rv b (some p1)] T V (some (.int rr)) T V :=
  MG.ofWG (L := [(0, rv b (some this)), (1, rv b (some p1))]) (by decide +kernel) rfl (Nat.le_of_ble_eq_true rfl) (fun _ _ _ _ _ _ _ G _ => w_Lx_lettersOf G ⟨Nat.le_refl _, Nat.le_refl _⟩ k_this k_p1 h)
set_option maxHeartbeats 4000000 in
set_option maxRecDepth 100000 in
theorem w_Lx_placeBehind {p : Program} {l : Launch} {e : Env} {R : Room} {s : State} {m : MethodId} {args : Array Value} {below : List Frame} {meth : Method} {c : Code} {D : va_G} {ca : Nat → ClassId} {b : Nat} {T : Tx} {V : Vx} (G : GX p s m meth c cX2_placeBehind 5 (Option.some Jvm.ClassFile.FieldType.int) RX2 "placeBehind" D ca b) (hR : 1 ≤ R.frames ∧ 23 ≤ R.locals) {this : Nat} {p1 : Nat} {p2 : Int32} {p3 : Nat} {rr : Int32}  (k_this : kd T this = 2) (k_p1 : kd T p1 = 7) (k_p3 : kd T p3 = 6) (h : Lx_placeBehind T V this p1 p2 p3 = some rr) : WG p l e R s m args below meth c D ca b 5 (QG D ca b (some (.int rr)) T V below args s 0 0) 0 0 T V 0 [(0, rv b (some this)), (1, rv b (some p1)), (2, .int p2), (3, rv b (some p3))] [] := by
  unfold Lx_placeBehind at h
  refine g_iload_n (pc := 0) G dX2_placeBehind_0 2 rfl ?_
  refine g_if_lt (pc := 1) G 19 dX2_placeBehind_1 (by decide) (fun c1 => ?_) (fun c1 => ?_)
  · rw [if_pos c1] at h
    refine g_bipush (pc := 19) G (v := (-4)) dX2_placeBehind_19 (by decide) ?_
    cases h
    exact g_iret (pc := 21) G dX2_placeBehind_21
  · rw [if_neg c1] at h
    refine g_aload_n (pc := 4) G dX2_placeBehind_4 3 rfl ?_
    refine g_getIN (pc := 5) G ci_6 (uw_6 G.2.2.2.2.1) (k := 3) (by decide) rfl rfl k_p3 (q267 G.2.2.2.2.1) dX2_placeBehind_5 ?_
    refine g_if_ne (pc := 8) G 19 dX2_placeBehind_8 (by decide) (fun c2 => ?_) (fun c2 => ?_)
    · rw [if_neg c2] at h
      refine g_bipush (pc := 19) G (v := (-4)) dX2_placeBehind_19 (by decide) ?_
      cases h
      exact g_iret (pc := 21) G dX2_placeBehind_21
    · rw [if_pos c2] at h
      refine g_aload_n (pc := 11) G dX2_placeBehind_11 3 rfl ?_
      refine g_getIN (pc := 12) G ci_6 (uw_6 G.2.2.2.2.1) (k := 1) (by decide) rfl rfl k_p3 (q259 G.2.2.2.2.1) dX2_placeBehind_12 ?_
      refine g_iconst (pc := 15) G (v := 2) dX2_placeBehind_15 (by decide) ?_
      refine g_icmp_ne (pc := 16) G 22 dX2_placeBehind_16 (by decide) (fun c3 => ?_) (fun c3 => ?_)
      · rw [if_neg c3] at h
        refine g_iload_n (pc := 22) G dX2_placeBehind_22 2 rfl ?_
        refine g_istore (L' := [(4, .int p2), (0, rv b (some this)), (1, rv b (some p1)), (2, .int p2), (3, rv b (some p3))]) (pc := 23) G dX2_placeBehind_23 (by decide) rfl ?_
        have LP7 : ∀ (n4 : Nat) (v5 : Int32), Lx_placeBehind_L25 T V this p1 p3 n4 v5 = some rr → WG p l e R s m args below meth c D ca b 5 (QG D ca b (some (.int rr)) T V below args s 0 0) 0 0 T V 25 [(0, rv b (some this)), (1, rv b (some p1)), (3, rv b (some p3)), (4, .int v5)] [] := by
          intro n4
          induction n4 with
          | zero =>
            intro v5 h
            cases h
          | succ n4 ih6 =>
            intro v5 h
            rw [Lx_placeBehind_L25] at h
            refine g_iload (pc := 25) G dX2_placeBehind_25 3 rfl ?_
            refine g_aload_n (pc := 27) G dX2_placeBehind_27 1 rfl ?_
            obtain ⟨r8, e9, h⟩ := bd_e h
            obtain ⟨f10, k11⟩ := ck_e e9
            refine g_getRN (pc := 28) G ci_7 (uw_7 G.2.2.2.2.1) (k := 0) (by decide) rfl rfl k_p1 (q288 G.2.2.2.2.1) dX2_placeBehind_28 f10 ?_
            obtain ⟨r13, e12, h⟩ := bd_e h
            refine g_callV (pc := 31) (As := []) (rest := [.int v5]) (st2 := [.int r13, .int v5]) G (c_Le_size l D ca b k11 e12) (mb_Le_size G.2.2.2.2.1) (q332 G.2.2.2.2.1) (q333 G.2.2.2.2.1) (q391 G.2.2.2.2.1) ci_1 k11 rfl rfl (Nat.le_of_ble_eq_true rfl) ⟨Nat.le_trans (Nat.le_of_ble_eq_true rfl) hR.1, Nat.le_trans (Nat.le_of_ble_eq_true rfl) hR.2⟩ ⟨Nat.zero_le _, Nat.zero_le _⟩ rfl rfl dX2_placeBehind_31 ?_
            refine g_icmp_ge (pc := 34) G 92 dX2_placeBehind_34 (by decide) (fun c14 => ?_) (fun c14 => ?_)
            · rw [if_pos c14] at h
              refine g_bipush (pc := 92) G (v := (-4)) dX2_placeBehind_92 (by decide) ?_
              cases h
              exact g_iret (pc := 94) G dX2_placeBehind_94
            · rw [if_neg c14] at h
              refine g_aload_n (pc := 37) G dX2_placeBehind_37 1 rfl ?_
              obtain ⟨r15, e16, h⟩ := bd_e h
              obtain ⟨f17, k18⟩ := ck_e e16
              refine g_getRN (pc := 38) G ci_7 (uw_7 G.2.2.2.2.1) (k := 0) (by decide) rfl rfl k_p1 (q288 G.2.2.2.2.1) dX2_placeBehind_38 f17 ?_
              refine g_iload (pc := 41) G dX2_placeBehind_41 3 rfl ?_
              refine g_aload_n (pc := 43) G dX2_placeBehind_43 2 rfl ?_
              obtain ⟨r19, e20, h⟩ := bd_e h
              obtain ⟨f21, k22⟩ := ck_e e20
              refine g_getRN (pc := 44) G ci_6 (uw_6 G.2.2.2.2.1) (k := 0) (by decide) rfl rfl k_p3 (q256 G.2.2.2.2.1) dX2_placeBehind_44 f21 ?_
              obtain ⟨r24, e23, h⟩ := bd_e h
              refine g_callV (pc := 47) (As := [.int v5, rv b (some r19)]) (rest := []) (st2 := [.int r24]) G (c_Le_hasAt l D ca b k18 k22 e23) (mb_Le_hasAt G.2.2.2.2.1) (q393 G.2.2.2.2.1) (q394 G.2.2.2.2.1) (q392 G.2.2.2.2.1) ci_1 k18 rfl rfl (Nat.le_of_ble_eq_true rfl) ⟨Nat.le_trans (Nat.le_of_ble_eq_true rfl) hR.1, Nat.le_trans (Nat.le_of_ble_eq_true rfl) hR.2⟩ ⟨Nat.zero_le _, Nat.zero_le _⟩ rfl rfl dX2_placeBehind_47 ?_
              refine g_if_eq (pc := 50) G 64 dX2_placeBehind_50 (by decide) (fun c25 => ?_) (fun c25 => ?_)
              · rw [if_pos c25] at h
                refine g_aload_n (pc := 64) G dX2_placeBehind_64 0 rfl ?_
                refine g_getI (pc := 65) G ci_2 (uw_2 G.2.2.2.2.1) (k := 4) (by decide) rfl rfl k_this (q310 G.2.2.2.2.1) dX2_placeBehind_65 ?_
                refine g_if_eq (pc := 68) G 83 dX2_placeBehind_68 (by decide) (fun c26 => ?_) (fun c26 => ?_)
                · rw [if_pos c26] at h
                  refine g_bipush (pc := 83) G (v := (-4)) dX2_placeBehind_83 (by decide) ?_
                  cases h
                  exact g_iret (pc := 85) G dX2_placeBehind_85
                · rw [if_neg c26] at h
                  refine g_aload_n (pc := 71) G dX2_placeBehind_71 1 rfl ?_
                  obtain ⟨r27, e28, h⟩ := bd_e h
                  obtain ⟨f29, k30⟩ := ck_e e28
                  refine g_getRN (pc := 72) G ci_7 (uw_7 G.2.2.2.2.1) (k := 0) (by decide) rfl rfl k_p1 (q288 G.2.2.2.2.1) dX2_placeBehind_72 f29 ?_
                  refine g_iload (pc := 75) G dX2_placeBehind_75 3 rfl ?_
                  obtain ⟨r32, e31, h⟩ := bd_e h
                  refine g_callV (pc := 77) (As := [.int v5]) (rest := []) (st2 := [.int r32]) G (c_Le_isVowelAt l D ca b k30 e31) (mb_Le_isVowelAt G.2.2.2.2.1) (q570 G.2.2.2.2.1) (q571 G.2.2.2.2.1) (q569 G.2.2.2.2.1) ci_1 k30 rfl rfl (Nat.le_of_ble_eq_true rfl) ⟨Nat.le_trans (Nat.le_of_ble_eq_true rfl) hR.1, Nat.le_trans (Nat.le_of_ble_eq_true rfl) hR.2⟩ ⟨Nat.zero_le _, Nat.zero_le _⟩ rfl rfl dX2_placeBehind_77 ?_
                  refine g_if_ne (pc := 80) G 86 dX2_placeBehind_80 (by decide) (fun c33 => ?_) (fun c33 => ?_)
                  · rw [if_neg c33] at h
                    refine g_iinc (v := v5 + 1) (L' := [(4, .int (v5 + 1)), (0, rv b (some this)), (1, rv b (some p1)), (3, rv b (some p3))]) (pc := 86) G dX2_placeBehind_86 3 rfl rfl (by decide) rfl ?_
                    refine g_goto (pc := 89) G 25 dX2_placeBehind_89 (by decide) ?_
                    exact g_sub [1, 2, 3, 0] rfl (ih6 _ h)
                  · rw [if_pos c33] at h
                    refine g_bipush (pc := 83) G (v := (-4)) dX2_placeBehind_83 (by decide) ?_
                    cases h
                    exact g_iret (pc := 85) G dX2_placeBehind_85
              · rw [if_neg c25] at h
                refine g_iload (pc := 53) G dX2_placeBehind_53 3 rfl ?_
                refine g_aload_n (pc := 55) G dX2_placeBehind_55 2 rfl ?_
                obtain ⟨r34, e35, h⟩ := bd_e h
                obtain ⟨f36, k37⟩ := ck_e e35
                refine g_getRN (pc := 56) G ci_6 (uw_6 G.2.2.2.2.1) (k := 0) (by decide) rfl rfl k_p3 (q256 G.2.2.2.2.1) dX2_placeBehind_56 f36 ?_
                obtain ⟨r39, e38, h⟩ := bd_e h
                refine g_callV (pc := 59) (As := []) (rest := [.int v5]) (st2 := [.int r39, .int v5]) G (c_Le_size l D ca b k37 e38) (mb_Le_size G.2.2.2.2.1) (q332 G.2.2.2.2.1) (q333 G.2.2.2.2.1) (q391 G.2.2.2.2.1) ci_1 k37 rfl rfl (Nat.le_of_ble_eq_true rfl) ⟨Nat.le_trans (Nat.le_of_ble_eq_true rfl) hR.1, Nat.le_trans (Nat.le_of_ble_eq_true rfl) hR.2⟩ ⟨Nat.zero_le _, Nat.zero_le _⟩ rfl rfl dX2_placeBehind_59 ?_
                refine g_iadd (pc := 62) G dX2_placeBehind_62 ?_
                cases h
                exact g_iret (pc := 63) G dX2_placeBehind_63
        exact g_sub [1, 2, 4, 0] rfl (LP7 _ _ h)
      · rw [if_pos c3] at h
        refine g_bipush (pc := 19) G (v := (-4)) dX2_placeBehind_19 (by decide) ?_
        cases h
        exact g_iret (pc := 21) G dX2_placeBehind_21
theorem c_Lx_placeBehind (l : Launch) (D : va_G) (ca : Nat → ClassId) (b : Nat) {T : Tx} {V : Vx} {this : Nat} {p1 : Nat} {p2 : Int32} {p3 : Nat} {rr : Int32}  (k_this : kd T this = 2) (k_p1 : kd T p1 = 7) (k_p3 : kd T p3 = 6) (h : Lx_placeBehind T V this p1 p2 p3 = some rr) : MG l yX2_placeBehind cX2_placeBehind 5 (Option.some Jvm.ClassFile.FieldType.int) 1 23 0 0 D ca b [rv b (some this), rv b (some p1), .int p2, rv b (some p3)] T V (some (.int rr)) T V :=
  MG.ofWG (L := [(0, rv b (some this)), (1, rv b (some p1)), (2, .int p2), (3, rv b (some p3))]) (by decide +kernel) rfl (Nat.le_of_ble_eq_true rfl) (fun _ _ _ _ _ _ _ G _ => w_Lx_placeBehind G ⟨Nat.le_refl _, Nat.le_refl _⟩ k_this k_p1 k_p3 h)
set_option maxHeartbeats 4000000 in
set_option maxRecDepth 100000 in
theorem w_Lx_mayEndAt {p : Program} {l : Launch} {e : Env} {R : Room} {s : State} {m : MethodId} {args : Array Value} {below : List Frame} {meth : Method} {c : Code} {D : va_G} {ca : Nat → ClassId} {b : Nat} {T : Tx} {V : Vx} (G : GX p s m meth c cX2_mayEndAt 4 (Option.some Jvm.ClassFile.FieldType.boolean) RX2 "mayEndAt" D ca b) (hR : 1 ≤ R.frames ∧ 21 ≤ R.locals) {this : Nat} {p1 : Nat} {p2 : Int32} {rr : Int32}  (k_this : kd T this = 2) (k_p1 : kd T p1 = 7) (h : Lx_mayEndAt T V this p1 p2 = some rr) : WG p l e R s m args below meth c D ca b 4 (QG D ca b (some (.int rr)) T V below args s 0 0) 0 0 T V 0 [(0, rv b (some this)), (1, rv b (some p1)), (2, .int p2)] [] := by
  unfold Lx_mayEndAt at h
  refine g_iload_n (pc := 0) G dX2_mayEndAt_0 2 rfl ?_
  refine g_istore_n (L' := [(3, .int p2), (0, rv b (some this)), (1, rv b (some p1)), (2, .int p2)]) (pc := 1) G dX2_mayEndAt_1 (by decide) rfl ?_
  have LP4 : ∀ (n1 : Nat) (v2 : Int32), Lx_mayEndAt_L2 T V this p1 n1 v2 = some rr → WG p l e R s m args below meth c D ca b 4 (QG D ca b (some (.int rr)) T V below args s 0 0) 0 0 T V 2 [(0, rv b (some this)), (1, rv b (some p1)), (3, .int v2)] [] := by
    intro n1
    induction n1 with
    | zero =>
      intro v2 h
      cases h
    | succ n1 ih3 =>
      intro v2 h
      rw [Lx_mayEndAt_L2] at h
      refine g_iload_n (pc := 2) G dX2_mayEndAt_2 2 rfl ?_
      refine g_aload_n (pc := 3) G dX2_mayEndAt_3 1 rfl ?_
      obtain ⟨r5, e6, h⟩ := bd_e h
      obtain ⟨f7, k8⟩ := ck_e e6
      refine g_getRN (pc := 4) G ci_7 (uw_7 G.2.2.2.2.1) (k := 0) (by decide) rfl rfl k_p1 (q288 G.2.2.2.2.1) dX2_mayEndAt_4 f7 ?_
      obtain ⟨r10, e9, h⟩ := bd_e h
      refine g_callV (pc := 7) (As := []) (rest := [.int v2]) (st2 := [.int r10, .int v2]) G (c_Le_size l D ca b k8 e9) (mb_Le_size G.2.2.2.2.1) (q332 G.2.2.2.2.1) (q333 G.2.2.2.2.1) (q391 G.2.2.2.2.1) ci_1 k8 rfl rfl (Nat.le_of_ble_eq_true rfl) ⟨Nat.le_trans (Nat.le_of_ble_eq_true rfl) hR.1, Nat.le_trans (Nat.le_of_ble_eq_true rfl) hR.2⟩ ⟨Nat.zero_le _, Nat.zero_le _⟩ rfl rfl dX2_mayEndAt_7 ?_
      refine g_icmp_ge (pc := 10) G 39 dX2_mayEndAt_10 (by decide) (fun c11 => ?_) (fun c11 => ?_)
      · rw [if_pos c11] at h
        refine g_iconst (pc := 39) G (v := 1) dX2_mayEndAt_39 (by decide) ?_
        cases h
        exact g_zret (pc := 40) G rfl dX2_mayEndAt_40
      · rw [if_neg c11] at h
        refine g_aload_n (pc := 13) G dX2_mayEndAt_13 0 rfl ?_
        refine g_getI (pc := 14) G ci_2 (uw_2 G.2.2.2.2.1) (k := 4) (by decide) rfl rfl k_this (q310 G.2.2.2.2.1) dX2_mayEndAt_14 ?_
        refine g_if_eq (pc := 17) G 31 dX2_mayEndAt_17 (by decide) (fun c12 => ?_) (fun c12 => ?_)
        · rw [if_pos c12] at h
          refine g_iconst (pc := 31) G (v := 0) dX2_mayEndAt_31 (by decide) ?_
          cases h
          exact g_zret (pc := 32) G rfl dX2_mayEndAt_32
        · rw [if_neg c12] at h
          refine g_aload_n (pc := 20) G dX2_mayEndAt_20 1 rfl ?_
          obtain ⟨r13, e14, h⟩ := bd_e h
          obtain ⟨f15, k16⟩ := ck_e e14
          refine g_getRN (pc := 21) G ci_7 (uw_7 G.2.2.2.2.1) (k := 0) (by decide) rfl rfl k_p1 (q288 G.2.2.2.2.1) dX2_mayEndAt_21 f15 ?_
          refine g_iload_n (pc := 24) G dX2_mayEndAt_24 2 rfl ?_
          obtain ⟨r18, e17, h⟩ := bd_e h
          refine g_callV (pc := 25) (As := [.int v2]) (rest := []) (st2 := [.int r18]) G (c_Le_isVowelAt l D ca b k16 e17) (mb_Le_isVowelAt G.2.2.2.2.1) (q570 G.2.2.2.2.1) (q571 G.2.2.2.2.1) (q569 G.2.2.2.2.1) ci_1 k16 rfl rfl (Nat.le_of_ble_eq_true rfl) ⟨Nat.le_trans (Nat.le_of_ble_eq_true rfl) hR.1, Nat.le_trans (Nat.le_of_ble_eq_true rfl) hR.2⟩ ⟨Nat.zero_le _, Nat.zero_le _⟩ rfl rfl dX2_mayEndAt_25 ?_
          refine g_if_ne (pc := 28) G 33 dX2_mayEndAt_28 (by decide) (fun c19 => ?_) (fun c19 => ?_)
          · rw [if_neg c19] at h
            refine g_iinc (v := v2 + 1) (L' := [(3, .int (v2 + 1)), (0, rv b (some this)), (1, rv b (some p1))]) (pc := 33) G dX2_mayEndAt_33 2 rfl rfl (by decide) rfl ?_
            refine g_goto (pc := 36) G 2 dX2_mayEndAt_36 (by decide) ?_
            exact g_sub [1, 2, 0] rfl (ih3 _ h)
          · rw [if_pos c19] at h
            refine g_iconst (pc := 31) G (v := 0) dX2_mayEndAt_31 (by decide) ?_
            cases h
            exact g_zret (pc := 32) G rfl dX2_mayEndAt_32
  exact g_sub [1, 2, 0] rfl (LP4 _ _ h)
theorem c_Lx_mayEndAt (l : Launch) (D : va_G) (ca : Nat → ClassId) (b : Nat) {T : Tx} {V : Vx} {this : Nat} {p1 : Nat} {p2 : Int32} {rr : Int32}  (k_this : kd T this = 2) (k_p1 : kd T p1 = 7) (h : Lx_mayEndAt T V this p1 p2 = some rr) : MG l yX2_mayEndAt cX2_mayEndAt 4 (Option.some Jvm.ClassFile.FieldType.boolean) 1 21 0 0 D ca b [rv b (some this), rv b (some p1), .int p2] T V (some (.int rr)) T V :=
  MG.ofWG (L := [(0, rv b (some this)), (1, rv b (some p1)), (2, .int p2)]) (by decide +kernel) rfl (Nat.le_of_ble_eq_true rfl) (fun _ _ _ _ _ _ _ G _ => w_Lx_mayEndAt G ⟨Nat.le_refl _, Nat.le_refl _⟩ k_this k_p1 h)
set_option maxHeartbeats 4000000 in
set_option maxRecDepth 100000 in
theorem w_Pa_digitAt {p : Program} {l : Launch} {e : Env} {R : Room} {s : State} {m : MethodId} {args : Array Value} {below : List Frame} {meth : Method} {c : Code} {D : va_G} {ca : Nat → ClassId} {b : Nat} {T : Tx} {V : Vx} (G : GX p s m meth c cX3_digitAt 4 (Option.some Jvm.ClassFile.FieldType.int) RX3 "digitAt" D ca b) (hR : 1 ≤ R.frames ∧ 21 ≤ R.locals) {p1 : Nat} {p2 : Int32} {p3 : Int32} {rr : Int32}  (k_p1 : kd T p1 = 1) (h : Pa_digitAt T V p1 p2 p3 = some rr) : WG p l e R s m args below meth c D ca b 4 (QG D ca b (some (.int rr)) T V below args s 0 0) 0 0 T V 0 [(0, rv b (some p1)), (1, .int p2), (2, .int p3)] [] := by
  unfold Pa_digitAt at h
  refine g_aload_n (pc := 0) G dX3_digitAt_0 0 rfl ?_
  refine g_iload_n (pc := 1) G dX3_digitAt_1 1 rfl ?_
  obtain ⟨r2, e1, h⟩ := bd_e h
  refine g_callV (pc := 2) (As := [.int p2]) (rest := []) (st2 := [.int r2]) G (c_Le_at l D ca b k_p1 e1) (mb_Le_at G.2.2.2.2.1) (q340 G.2.2.2.2.1) (q341 G.2.2.2.2.1) (q346 G.2.2.2.2.1) ci_1 k_p1 rfl rfl (Nat.le_of_ble_eq_true rfl) ⟨Nat.le_trans (Nat.le_of_ble_eq_true rfl) hR.1, Nat.le_trans (Nat.le_of_ble_eq_true rfl) hR.2⟩ ⟨Nat.zero_le _, Nat.zero_le _⟩ rfl rfl dX3_digitAt_2 ?_
  refine g_bipush (pc := 5) G (v := 48) dX3_digitAt_5 (by decide) ?_
  refine g_isub (pc := 7) G dX3_digitAt_7 ?_
  obtain ⟨x3, e4, h⟩ := lt_e h
  rw [e4]
  refine g_istore_n (L' := [(3, .int x3), (0, rv b (some p1)), (1, .int p2), (2, .int p3)]) (pc := 8) G dX3_digitAt_8 (by decide) rfl ?_
  refine g_iload_n (pc := 9) G dX3_digitAt_9 0 rfl ?_
  refine g_if_lt (pc := 10) G 22 dX3_digitAt_10 (by decide) (fun c5 => ?_) (fun c5 => ?_)
  · rw [if_pos c5] at h
    refine g_bipush (pc := 22) G (v := (-4)) dX3_digitAt_22 (by decide) ?_
    cases h
    exact g_iret (pc := 24) G dX3_digitAt_24
  · rw [if_neg c5] at h
    refine g_iload_n (pc := 13) G dX3_digitAt_13 0 rfl ?_
    refine g_iload_n (pc := 14) G dX3_digitAt_14 3 rfl ?_
    refine g_icmp_gt (pc := 15) G 22 dX3_digitAt_15 (by decide) (fun c6 => ?_) (fun c6 => ?_)
    · rw [if_pos c6] at h
      refine g_bipush (pc := 22) G (v := (-4)) dX3_digitAt_22 (by decide) ?_
      cases h
      exact g_iret (pc := 24) G dX3_digitAt_24
    · rw [if_neg c6] at h
      refine g_iload_n (pc := 18) G dX3_digitAt_18 0 rfl ?_
      refine g_goto (pc := 19) G 24 dX3_digitAt_19 (by decide) ?_
      cases h
      exact g_iret (pc := 24) G dX3_digitAt_24
theorem c_Pa_digitAt (l : Launch) (D : va_G) (ca : Nat → ClassId) (b : Nat) {T : Tx} {V : Vx} {p1 : Nat} {p2 : Int32} {p3 : Int32} {rr : Int32}  (k_p1 : kd T p1 = 1) (h : Pa_digitAt T V p1 p2 p3 = some rr) : MG l yX3_digitAt cX3_digitAt 4 (Option.some Jvm.ClassFile.FieldType.int) 1 21 0 0 D ca b [rv b (some p1), .int p2, .int p3] T V (some (.int rr)) T V :=
  MG.ofWG (L := [(0, rv b (some p1)), (1, .int p2), (2, .int p3)]) (by decide +kernel) rfl (Nat.le_of_ble_eq_true rfl) (fun _ _ _ _ _ _ _ G _ => w_Pa_digitAt G ⟨Nat.le_refl _, Nat.le_refl _⟩ k_p1 h)
set_option maxHeartbeats 4000000 in
set_option maxRecDepth 100000 in
theorem w_Pa_keep {p : Program} {l : Launch} {e : Env} {R : Room} {s : State} {m : MethodId} {args : Array Value} {below : List Frame} {meth : Method} {c : Code} {D : va_G} {ca : Nat → ClassId} {b : Nat} {T : Tx} {V : Vx} (G : GX p s m meth c cX3_keep 4 (Option.none : Option Jvm.ClassFile.FieldType) RX3 "keep" D ca b) (hR : 0 ≤ R.frames ∧ 0 ≤ R.locals) {p1 : Nat} {p2 : Int32} {p3 : Int32} {p4 : Nat}  {Vf : Vx} (k_p1 : kd T p1 = 6) (k_p4 : kd T p4 = 2) (h : Pa_keep T V p1 p2 p3 p4 = some Vf) : WG p l e R s m args below meth c D ca b 4 (QG D ca b none T Vf below args s 0 0) 0 0 T V 0 [(0, rv b (some p1)), (1, .int p2), (2, .int p3), (3, rv b (some p4))] [] := by
  unfold Pa_keep at h
  refine g_aload_n (pc := 0) G dX3_keep_0 0 rfl ?_
  refine g_iload_n (pc := 1) G dX3_keep_1 1 rfl ?_
  obtain ⟨V1, e2, h⟩ := lt_e h
  refine g_putIN (pc := 2) G ci_6 (uw_6 G.2.2.2.2.1) (k := 1) (by decide) rfl rfl k_p1 rfl ⟨rfl, rfl⟩ (q258 G.2.2.2.2.1) e2 dX3_keep_2 ?_
  refine g_aload_n (pc := 5) G dX3_keep_5 0 rfl ?_
  refine g_iload_n (pc := 6) G dX3_keep_6 2 rfl ?_
  obtain ⟨V3, e4, h⟩ := lt_e h
  refine g_putIN (pc := 7) G ci_6 (uw_6 G.2.2.2.2.1) (k := 2) (by decide) rfl rfl k_p1 rfl ⟨rfl, rfl⟩ (q262 G.2.2.2.2.1) e4 dX3_keep_7 ?_
  refine g_aload_n (pc := 10) G dX3_keep_10 0 rfl ?_
  refine g_iconst (pc := 11) G (v := 0) dX3_keep_11 (by decide) ?_
  obtain ⟨V5, e6, h⟩ := lt_e h
  refine g_putIN (pc := 12) G ci_6 (uw_6 G.2.2.2.2.1) (k := 3) (by decide) rfl rfl k_p1 rfl (zo_n rfl) (q268 G.2.2.2.2.1) e6 dX3_keep_12 ?_
  refine g_aload_n (pc := 15) G dX3_keep_15 3 rfl ?_
  refine g_dup (pc := 16) G dX3_keep_16 rfl ?_
  refine g_getIN (pc := 17) G ci_2 (uw_2 G.2.2.2.2.1) (k := 2) (by decide) rfl rfl k_p4 (q305 G.2.2.2.2.1) dX3_keep_17 ?_
  refine g_iconst (pc := 20) G (v := 1) dX3_keep_20 (by decide) ?_
  refine g_iadd (pc := 21) G dX3_keep_21 ?_
  obtain ⟨V7, e8, h⟩ := lt_e h
  refine g_putIN (pc := 22) G ci_2 (uw_2 G.2.2.2.2.1) (k := 2) (by decide) rfl rfl k_p4 rfl ⟨rfl, rfl⟩ (q305 G.2.2.2.2.1) e8 dX3_keep_22 ?_
  cases h
  exact g_vret (pc := 25) G dX3_keep_25
theorem c_Pa_keep (l : Launch) (D : va_G) (ca : Nat → ClassId) (b : Nat) {T : Tx} {V : Vx} {p1 : Nat} {p2 : Int32} {p3 : Int32} {p4 : Nat}  {Vf : Vx} (k_p1 : kd T p1 = 6) (k_p4 : kd T p4 = 2) (h : Pa_keep T V p1 p2 p3 p4 = some Vf) : MG l yX3_keep cX3_keep 4 (Option.none : Option Jvm.ClassFile.FieldType) 0 0 0 0 D ca b [rv b (some p1), .int p2, .int p3, rv b (some p4)] T V none T Vf :=
  MG.ofWG (L := [(0, rv b (some p1)), (1, .int p2), (2, .int p3), (3, rv b (some p4))]) (by decide +kernel) rfl (Nat.le_of_ble_eq_true rfl) (fun _ _ _ _ _ _ _ G _ => w_Pa_keep G ⟨Nat.le_refl _, Nat.le_refl _⟩ k_p1 k_p4 h)
set_option maxHeartbeats 4000000 in
set_option maxRecDepth 100000 in
theorem w_Pa_takesPicture {p : Program} {l : Launch} {e : Env} {R : Room} {s : State} {m : MethodId} {args : Array Value} {below : List Frame} {meth : Method} {c : Code} {D : va_G} {ca : Nat → ClassId} {b : Nat} {T : Tx} {V : Vx} (G : GX p s m meth c cX3_takesPicture 6 (Option.some Jvm.ClassFile.FieldType.boolean) RX3 "takesPicture" D ca b) (hR : 2 ≤ R.frames ∧ 46 ≤ R.locals) {p1 : Nat} {p2 : Int32} {p3 : Int32} {p4 : Nat} {rr : Int32} {Vf : Vx} (k_p1 : kd T p1 = 1) (k_p4 : kd T p4 = 2) (h : Pa_takesPicture T V p1 p2 p3 p4 = some (rr, Vf)) : WG p l e R s m args below meth c D ca b 6 (QG D ca b (some (.int rr)) T Vf below args s 0 0) 0 0 T V 0 [(0, rv b (some p1)), (1, .int p2), (2, .int p3), (3, rv b (some p4))] [] := by
  unfold Pa_takesPicture at h
  refine g_aload_n (pc := 0) G dX3_takesPicture_0 3 rfl ?_
  obtain ⟨r2, e1, h⟩ := bd_e h
  refine g_callV (pc := 1) (As := []) (rest := []) (st2 := [rv b r2]) G (c_Lx_nextSign l D ca b k_p4 e1) (mb_Lx_nextSign G.2.2.2.2.1) (q351 G.2.2.2.2.1) (q352 G.2.2.2.2.1) (q350 G.2.2.2.2.1) ci_2 k_p4 rfl rfl (Nat.le_of_ble_eq_true rfl) ⟨Nat.le_trans (Nat.le_of_ble_eq_true rfl) hR.1, Nat.le_trans (Nat.le_of_ble_eq_true rfl) hR.2⟩ ⟨Nat.zero_le _, Nat.zero_le _⟩ rfl rfl dX3_takesPicture_1 ?_
  refine g_astore (L' := [(4, rv b r2), (0, rv b (some p1)), (1, .int p2), (2, .int p3), (3, rv b (some p4))]) (pc := 4) G dX3_takesPicture_4 (by decide) rfl ?_
  refine g_aload_n (pc := 6) G dX3_takesPicture_6 1 rfl ?_
  refine g_iload_n (pc := 7) G dX3_takesPicture_7 2 rfl ?_
  refine g_iconst (pc := 8) G (v := 1) dX3_takesPicture_8 (by decide) ?_
  refine g_iadd (pc := 9) G dX3_takesPicture_9 ?_
  refine g_iconst (pc := 10) G (v := 5) dX3_takesPicture_10 (by decide) ?_
  obtain ⟨r4, e3, h⟩ := bd_e h
  refine g_callS (pc := 11) (As := [rv b (some p1), .int (p2 + 1), .int 5]) (rest := []) (st2 := [.int r4]) G (c_Pa_digitAt l D ca b k_p1 e3) (mb_Pa_digitAt G.2.2.2.2.1) (q355 G.2.2.2.2.1) (q354 G.2.2.2.2.1) rfl rfl (Nat.le_of_ble_eq_true rfl) ⟨Nat.le_trans (Nat.le_of_ble_eq_true rfl) hR.1, Nat.le_trans (Nat.le_of_ble_eq_true rfl) hR.2⟩ ⟨Nat.zero_le _, Nat.zero_le _⟩ rfl rfl dX3_takesPicture_11 ?_
  refine g_istore (L' := [(5, .int r4), (4, rv b r2), (0, rv b (some p1)), (1, .int p2), (2, .int p3), (3, rv b (some p4))]) (pc := 14) G dX3_takesPicture_14 (by decide) (by cases r2 <;> rfl) ?_
  refine g_aload (pc := 16) G dX3_takesPicture_16 1 rfl ?_
  cases r2 with
  | none =>
    dsimp only at h
    refine g_ifnullN (pc := 18) G 40 dX3_takesPicture_18 (by decide) ?_
    refine g_iconst (pc := 40) G (v := 0) dX3_takesPicture_40 (by decide) ?_
    cases h
    exact g_zret (pc := 41) G rfl dX3_takesPicture_41
  | some r5 =>
    dsimp only at h
    refine g_ifnullS (pc := 18) G dX3_takesPicture_18 ?_
    refine g_iload (pc := 21) G dX3_takesPicture_21 0 rfl ?_
    refine g_bipush (pc := 23) G (v := (-4)) dX3_takesPicture_23 (by decide) ?_
    refine g_icmp_eq (pc := 25) G 40 dX3_takesPicture_25 (by decide) (fun c6 => ?_) (fun c6 => ?_)
    · rw [if_pos c6] at h
      refine g_iconst (pc := 40) G (v := 0) dX3_takesPicture_40 (by decide) ?_
      cases h
      exact g_zret (pc := 41) G rfl dX3_takesPicture_41
    · rw [if_neg c6] at h
      refine g_aload_n (pc := 28) G dX3_takesPicture_28 2 rfl ?_
      refine g_iload_n (pc := 29) G dX3_takesPicture_29 3 rfl ?_
      refine g_iconst (pc := 30) G (v := 2) dX3_takesPicture_30 (by decide) ?_
      refine g_iadd (pc := 31) G dX3_takesPicture_31 ?_
      obtain ⟨r8, e7, h⟩ := bd_e h
      refine g_callV (pc := 32) (As := [.int (p2 + 2)]) (rest := []) (st2 := [.int r8]) G (c_Le_at l D ca b k_p1 e7) (mb_Le_at G.2.2.2.2.1) (q340 G.2.2.2.2.1) (q341 G.2.2.2.2.1) (q346 G.2.2.2.2.1) ci_1 k_p1 rfl rfl (Nat.le_of_ble_eq_true rfl) ⟨Nat.le_trans (Nat.le_of_ble_eq_true rfl) hR.1, Nat.le_trans (Nat.le_of_ble_eq_true rfl) hR.2⟩ ⟨Nat.zero_le _, Nat.zero_le _⟩ rfl rfl dX3_takesPicture_32 ?_
      refine g_bipush (pc := 35) G (v := 44) dX3_takesPicture_35 (by decide) ?_
      refine g_icmp_eq (pc := 37) G 42 dX3_takesPicture_37 (by decide) (fun c9 => ?_) (fun c9 => ?_)
      · rw [if_pos c9] at h
        refine g_aload (pc := 42) G dX3_takesPicture_42 1 rfl ?_
        obtain ⟨r12, e11, h⟩ := bd_e h
        have k10 : kd T r5 = 6 := by
          obtain ⟨ee, k0⟩ := ck_e e11
          cases ee
          exact k0
        obtain ⟨r13, e14, h⟩ := bd_e h
        obtain ⟨f15, k16⟩ := ck_e e14
        refine g_getRN (pc := 44) G ci_6 (uw_6 G.2.2.2.2.1) (k := 0) (by decide) rfl rfl k10 (q253 G.2.2.2.2.1) dX3_takesPicture_44 f15 ?_
        refine g_aload_n (pc := 47) G dX3_takesPicture_47 2 rfl ?_
        refine g_iload_n (pc := 48) G dX3_takesPicture_48 3 rfl ?_
        refine g_iconst (pc := 49) G (v := 3) dX3_takesPicture_49 (by decide) ?_
        refine g_iadd (pc := 50) G dX3_takesPicture_50 ?_
        refine g_iload_n (pc := 51) G dX3_takesPicture_51 4 rfl ?_
        obtain ⟨r19, V18, e17, h⟩ := bd2_e h
        refine g_callV (pc := 52) (As := [rv b (some p1), .int (p2 + 3), .int p3]) (rest := []) (st2 := [.int r19]) G (c_Le_become l D ca b k16 k_p1 e17) (mb_Le_become G.2.2.2.2.1) (q358 G.2.2.2.2.1) (q359 G.2.2.2.2.1) (q357 G.2.2.2.2.1) ci_1 k16 rfl rfl (Nat.le_of_ble_eq_true rfl) ⟨Nat.le_trans (Nat.le_of_ble_eq_true rfl) hR.1, Nat.le_trans (Nat.le_of_ble_eq_true rfl) hR.2⟩ ⟨Nat.zero_le _, Nat.zero_le _⟩ rfl rfl dX3_takesPicture_52 ?_
        refine g_if_ne (pc := 55) G 60 dX3_takesPicture_55 (by decide) (fun c20 => ?_) (fun c20 => ?_)
        · rw [if_neg c20] at h
          refine g_aload (pc := 60) G dX3_takesPicture_60 1 rfl ?_
          refine g_iconst (pc := 62) G (v := 0) dX3_takesPicture_62 (by decide) ?_
          refine g_iload (pc := 63) G dX3_takesPicture_63 0 rfl ?_
          refine g_aload_n (pc := 65) G dX3_takesPicture_65 5 rfl ?_
          obtain ⟨V22, e21, h⟩ := bd_e h
          refine g_callS (pc := 66) (As := [rv b (some r5), .int 0, .int r4, rv b (some p4)]) (rest := []) (st2 := []) G (c_Pa_keep l D ca b k10 k_p4 e21) (mb_Pa_keep G.2.2.2.2.1) (q367 G.2.2.2.2.1) (q366 G.2.2.2.2.1) rfl rfl (Nat.le_of_ble_eq_true rfl) ⟨Nat.le_trans (Nat.le_of_ble_eq_true rfl) hR.1, Nat.le_trans (Nat.le_of_ble_eq_true rfl) hR.2⟩ ⟨Nat.zero_le _, Nat.zero_le _⟩ rfl rfl dX3_takesPicture_66 ?_
          refine g_iconst (pc := 69) G (v := 1) dX3_takesPicture_69 (by decide) ?_
          cases h
          exact g_zret (pc := 70) G rfl dX3_takesPicture_70
        · rw [if_pos c20] at h
          refine g_iconst (pc := 58) G (v := 0) dX3_takesPicture_58 (by decide) ?_
          cases h
          exact g_zret (pc := 59) G rfl dX3_takesPicture_59
      · rw [if_neg c9] at h
        refine g_iconst (pc := 40) G (v := 0) dX3_takesPicture_40 (by decide) ?_
        cases h
        exact g_zret (pc := 41) G rfl dX3_takesPicture_41
theorem c_Pa_takesPicture (l : Launch) (D : va_G) (ca : Nat → ClassId) (b : Nat) {T : Tx} {V : Vx} {p1 : Nat} {p2 : Int32} {p3 : Int32} {p4 : Nat} {rr : Int32} {Vf : Vx} (k_p1 : kd T p1 = 1) (k_p4 : kd T p4 = 2) (h : Pa_takesPicture T V p1 p2 p3 p4 = some (rr, Vf)) : MG l yX3_takesPicture cX3_takesPicture 6 (Option.some Jvm.ClassFile.FieldType.boolean) 2 46 0 0 D ca b [rv b (some p1), .int p2, .int p3, rv b (some p4)] T V (some (.int rr)) T Vf :=
  MG.ofWG (L := [(0, rv b (some p1)), (1, .int p2), (2, .int p3), (3, rv b (some p4))]) (by decide +kernel) rfl (Nat.le_of_ble_eq_true rfl) (fun _ _ _ _ _ _ _ G _ => w_Pa_takesPicture G ⟨Nat.le_refl _, Nat.le_refl _⟩ k_p1 k_p4 h)
set_option maxHeartbeats 4000000 in
set_option maxRecDepth 100000 in
theorem w_Pa_takesSound {p : Program} {l : Launch} {e : Env} {R : Room} {s : State} {m : MethodId} {args : Array Value} {below : List Frame} {meth : Method} {c : Code} {D : va_G} {ca : Nat → ClassId} {b : Nat} {T : Tx} {V : Vx} (G : GX p s m meth c cX3_takesSound 5 (Option.some Jvm.ClassFile.FieldType.boolean) RX3 "takesSound" D ca b) (hR : 2 ≤ R.frames ∧ 46 ≤ R.locals) {p1 : Nat} {p2 : Int32} {p3 : Int32} {p4 : Nat} {rr : Int32} {Vf : Vx} (k_p1 : kd T p1 = 1) (k_p4 : kd T p4 = 2) (h : Pa_takesSound T V p1 p2 p3 p4 = some (rr, Vf)) : WG p l e R s m args below meth c D ca b 5 (QG D ca b (some (.int rr)) T Vf below args s 0 0) 0 0 T V 0 [(0, rv b (some p1)), (1, .int p2), (2, .int p3), (3, rv b (some p4))] [] := by
  unfold Pa_takesSound at h
  refine g_aload_n (pc := 0) G dX3_takesSound_0 3 rfl ?_
  obtain ⟨r2, e1, h⟩ := bd_e h
  refine g_callV (pc := 1) (As := []) (rest := []) (st2 := [rv b r2]) G (c_Lx_nextSign l D ca b k_p4 e1) (mb_Lx_nextSign G.2.2.2.2.1) (q351 G.2.2.2.2.1) (q352 G.2.2.2.2.1) (q350 G.2.2.2.2.1) ci_2 k_p4 rfl rfl (Nat.le_of_ble_eq_true rfl) ⟨Nat.le_trans (Nat.le_of_ble_eq_true rfl) hR.1, Nat.le_trans (Nat.le_of_ble_eq_true rfl) hR.2⟩ ⟨Nat.zero_le _, Nat.zero_le _⟩ rfl rfl dX3_takesSound_1 ?_
  refine g_astore (L' := [(4, rv b r2), (0, rv b (some p1)), (1, .int p2), (2, .int p3), (3, rv b (some p4))]) (pc := 4) G dX3_takesSound_4 (by decide) rfl ?_
  refine g_aload (pc := 6) G dX3_takesSound_6 0 rfl ?_
  cases r2 with
  | none =>
    dsimp only at h
    refine g_ifnullN (pc := 8) G 27 dX3_takesSound_8 (by decide) ?_
    refine g_iconst (pc := 27) G (v := 0) dX3_takesSound_27 (by decide) ?_
    cases h
    exact g_zret (pc := 28) G rfl dX3_takesSound_28
  | some r3 =>
    dsimp only at h
    refine g_ifnullS (pc := 8) G dX3_takesSound_8 ?_
    refine g_aload (pc := 11) G dX3_takesSound_11 0 rfl ?_
    obtain ⟨r6, e5, h⟩ := bd_e h
    have k4 : kd T r3 = 6 := by
      obtain ⟨ee, k0⟩ := ck_e e5
      cases ee
      exact k0
    obtain ⟨r7, e8, h⟩ := bd_e h
    obtain ⟨f9, k10⟩ := ck_e e8
    refine g_getRN (pc := 13) G ci_6 (uw_6 G.2.2.2.2.1) (k := 0) (by decide) rfl rfl k4 (q253 G.2.2.2.2.1) dX3_takesSound_13 f9 ?_
    refine g_aload_n (pc := 16) G dX3_takesSound_16 1 rfl ?_
    refine g_iload_n (pc := 17) G dX3_takesSound_17 2 rfl ?_
    refine g_iconst (pc := 18) G (v := 1) dX3_takesSound_18 (by decide) ?_
    refine g_iadd (pc := 19) G dX3_takesSound_19 ?_
    refine g_iload_n (pc := 20) G dX3_takesSound_20 3 rfl ?_
    obtain ⟨r13, V12, e11, h⟩ := bd2_e h
    refine g_callV (pc := 21) (As := [rv b (some p1), .int (p2 + 1), .int p3]) (rest := []) (st2 := [.int r13]) G (c_Le_become l D ca b k10 k_p1 e11) (mb_Le_become G.2.2.2.2.1) (q358 G.2.2.2.2.1) (q359 G.2.2.2.2.1) (q357 G.2.2.2.2.1) ci_1 k10 rfl rfl (Nat.le_of_ble_eq_true rfl) ⟨Nat.le_trans (Nat.le_of_ble_eq_true rfl) hR.1, Nat.le_trans (Nat.le_of_ble_eq_true rfl) hR.2⟩ ⟨Nat.zero_le _, Nat.zero_le _⟩ rfl rfl dX3_takesSound_21 ?_
    refine g_if_ne (pc := 24) G 29 dX3_takesSound_24 (by decide) (fun c14 => ?_) (fun c14 => ?_)
    · rw [if_neg c14] at h
      refine g_aload (pc := 29) G dX3_takesSound_29 0 rfl ?_
      refine g_iconst (pc := 31) G (v := 1) dX3_takesSound_31 (by decide) ?_
      refine g_iconst (pc := 32) G (v := 0) dX3_takesSound_32 (by decide) ?_
      refine g_aload_n (pc := 33) G dX3_takesSound_33 4 rfl ?_
      obtain ⟨V16, e15, h⟩ := bd_e h
      refine g_callS (pc := 34) (As := [rv b (some r3), .int 1, .int 0, rv b (some p4)]) (rest := []) (st2 := []) G (c_Pa_keep l D ca b k4 k_p4 e15) (mb_Pa_keep G.2.2.2.2.1) (q367 G.2.2.2.2.1) (q366 G.2.2.2.2.1) rfl rfl (Nat.le_of_ble_eq_true rfl) ⟨Nat.le_trans (Nat.le_of_ble_eq_true rfl) hR.1, Nat.le_trans (Nat.le_of_ble_eq_true rfl) hR.2⟩ ⟨Nat.zero_le _, Nat.zero_le _⟩ rfl rfl dX3_takesSound_34 ?_
      refine g_iconst (pc := 37) G (v := 1) dX3_takesSound_37 (by decide) ?_
      cases h
      exact g_zret (pc := 38) G rfl dX3_takesSound_38
    · rw [if_pos c14] at h
      refine g_iconst (pc := 27) G (v := 0) dX3_takesSound_27 (by decide) ?_
      cases h
      exact g_zret (pc := 28) G rfl dX3_takesSound_28
theorem c_Pa_takesSound (l : Launch) (D : va_G) (ca : Nat → ClassId) (b : Nat) {T : Tx} {V : Vx} {p1 : Nat} {p2 : Int32} {p3 : Int32} {p4 : Nat} {rr : Int32} {Vf : Vx} (k_p1 : kd T p1 = 1) (k_p4 : kd T p4 = 2) (h : Pa_takesSound T V p1 p2 p3 p4 = some (rr, Vf)) : MG l yX3_takesSound cX3_takesSound 5 (Option.some Jvm.ClassFile.FieldType.boolean) 2 46 0 0 D ca b [rv b (some p1), .int p2, .int p3, rv b (some p4)] T V (some (.int rr)) T Vf :=
  MG.ofWG (L := [(0, rv b (some p1)), (1, .int p2), (2, .int p3), (3, rv b (some p4))]) (by decide +kernel) rfl (Nat.le_of_ble_eq_true rfl) (fun _ _ _ _ _ _ _ G _ => w_Pa_takesSound G ⟨Nat.le_refl _, Nat.le_refl _⟩ k_p1 k_p4 h)
set_option maxHeartbeats 4000000 in
set_option maxRecDepth 100000 in
theorem w_Pa_takesMark {p : Program} {l : Launch} {e : Env} {R : Room} {s : State} {m : MethodId} {args : Array Value} {below : List Frame} {meth : Method} {c : Code} {D : va_G} {ca : Nat → ClassId} {b : Nat} {T : Tx} {V : Vx} (G : GX p s m meth c cX3_takesMark 6 (Option.some Jvm.ClassFile.FieldType.boolean) RX3 "takesMark" D ca b) (hR : 2 ≤ R.frames ∧ 44 ≤ R.locals) {p1 : Nat} {p2 : Int32} {p3 : Int32} {p4 : Nat} {rr : Int32} {Vf : Vx} (k_p1 : kd T p1 = 1) (k_p4 : kd T p4 = 2) (h : Pa_takesMark T V p1 p2 p3 p4 = some (rr, Vf)) : WG p l e R s m args below meth c D ca b 6 (QG D ca b (some (.int rr)) T Vf below args s 0 0) 0 0 T V 0 [(0, rv b (some p1)), (1, .int p2), (2, .int p3), (3, rv b (some p4))] [] := by
  unfold Pa_takesMark at h
  refine g_aload_n (pc := 0) G dX3_takesMark_0 3 rfl ?_
  obtain ⟨r2, e1, h⟩ := bd_e h
  refine g_callV (pc := 1) (As := []) (rest := []) (st2 := [rv b r2]) G (c_Lx_nextSign l D ca b k_p4 e1) (mb_Lx_nextSign G.2.2.2.2.1) (q351 G.2.2.2.2.1) (q352 G.2.2.2.2.1) (q350 G.2.2.2.2.1) ci_2 k_p4 rfl rfl (Nat.le_of_ble_eq_true rfl) ⟨Nat.le_trans (Nat.le_of_ble_eq_true rfl) hR.1, Nat.le_trans (Nat.le_of_ble_eq_true rfl) hR.2⟩ ⟨Nat.zero_le _, Nat.zero_le _⟩ rfl rfl dX3_takesMark_1 ?_
  refine g_astore (L' := [(4, rv b r2), (0, rv b (some p1)), (1, .int p2), (2, .int p3), (3, rv b (some p4))]) (pc := 4) G dX3_takesMark_4 (by decide) rfl ?_
  refine g_aload_n (pc := 6) G dX3_takesMark_6 1 rfl ?_
  refine g_iload_n (pc := 7) G dX3_takesMark_7 2 rfl ?_
  refine g_iconst (pc := 8) G (v := 1) dX3_takesMark_8 (by decide) ?_
  refine g_iadd (pc := 9) G dX3_takesMark_9 ?_
  refine g_iconst (pc := 10) G (v := 5) dX3_takesMark_10 (by decide) ?_
  obtain ⟨r4, e3, h⟩ := bd_e h
  refine g_callS (pc := 11) (As := [rv b (some p1), .int (p2 + 1), .int 5]) (rest := []) (st2 := [.int r4]) G (c_Pa_digitAt l D ca b k_p1 e3) (mb_Pa_digitAt G.2.2.2.2.1) (q355 G.2.2.2.2.1) (q354 G.2.2.2.2.1) rfl rfl (Nat.le_of_ble_eq_true rfl) ⟨Nat.le_trans (Nat.le_of_ble_eq_true rfl) hR.1, Nat.le_trans (Nat.le_of_ble_eq_true rfl) hR.2⟩ ⟨Nat.zero_le _, Nat.zero_le _⟩ rfl rfl dX3_takesMark_11 ?_
  refine g_istore (L' := [(5, .int r4), (4, rv b r2), (0, rv b (some p1)), (1, .int p2), (2, .int p3), (3, rv b (some p4))]) (pc := 14) G dX3_takesMark_14 (by decide) (by cases r2 <;> rfl) ?_
  refine g_aload (pc := 16) G dX3_takesMark_16 1 rfl ?_
  cases r2 with
  | none =>
    dsimp only at h
    refine g_ifnullN (pc := 18) G 35 dX3_takesMark_18 (by decide) ?_
    refine g_iconst (pc := 35) G (v := 0) dX3_takesMark_35 (by decide) ?_
    cases h
    exact g_zret (pc := 36) G rfl dX3_takesMark_36
  | some r5 =>
    dsimp only at h
    refine g_ifnullS (pc := 18) G dX3_takesMark_18 ?_
    refine g_iload (pc := 21) G dX3_takesMark_21 0 rfl ?_
    refine g_bipush (pc := 23) G (v := (-4)) dX3_takesMark_23 (by decide) ?_
    refine g_icmp_eq (pc := 25) G 35 dX3_takesMark_25 (by decide) (fun c6 => ?_) (fun c6 => ?_)
    · rw [if_pos c6] at h
      refine g_iconst (pc := 35) G (v := 0) dX3_takesMark_35 (by decide) ?_
      cases h
      exact g_zret (pc := 36) G rfl dX3_takesMark_36
    · rw [if_neg c6] at h
      refine g_iload_n (pc := 28) G dX3_takesMark_28 4 rfl ?_
      refine g_iload_n (pc := 29) G dX3_takesMark_29 3 rfl ?_
      refine g_iconst (pc := 30) G (v := 2) dX3_takesMark_30 (by decide) ?_
      refine g_iadd (pc := 31) G dX3_takesMark_31 ?_
      refine g_icmp_eq (pc := 32) G 37 dX3_takesMark_32 (by decide) (fun c7 => ?_) (fun c7 => ?_)
      · rw [if_pos c7] at h
        refine g_aload (pc := 37) G dX3_takesMark_37 1 rfl ?_
        obtain ⟨r10, e9, h⟩ := bd_e h
        have k8 : kd T r5 = 6 := by
          obtain ⟨ee, k0⟩ := ck_e e9
          cases ee
          exact k0
        obtain ⟨r11, e12, h⟩ := bd_e h
        obtain ⟨f13, k14⟩ := ck_e e12
        refine g_getRN (pc := 39) G ci_6 (uw_6 G.2.2.2.2.1) (k := 0) (by decide) rfl rfl k8 (q253 G.2.2.2.2.1) dX3_takesMark_39 f13 ?_
        obtain ⟨V16, e15, h⟩ := bd_e h
        refine g_callV (pc := 42) (As := []) (rest := []) (st2 := []) G (c_Le_clear l D ca b k14 e15) (mb_Le_clear G.2.2.2.2.1) (q362 G.2.2.2.2.1) (q363 G.2.2.2.2.1) (q375 G.2.2.2.2.1) ci_1 k14 rfl rfl (Nat.le_of_ble_eq_true rfl) ⟨Nat.le_trans (Nat.le_of_ble_eq_true rfl) hR.1, Nat.le_trans (Nat.le_of_ble_eq_true rfl) hR.2⟩ ⟨Nat.zero_le _, Nat.zero_le _⟩ rfl rfl dX3_takesMark_42 ?_
        refine g_aload (pc := 45) G dX3_takesMark_45 1 rfl ?_
        refine g_iconst (pc := 47) G (v := 2) dX3_takesMark_47 (by decide) ?_
        refine g_iload (pc := 48) G dX3_takesMark_48 0 rfl ?_
        refine g_aload_n (pc := 50) G dX3_takesMark_50 5 rfl ?_
        obtain ⟨V18, e17, h⟩ := bd_e h
        refine g_callS (pc := 51) (As := [rv b (some r5), .int 2, .int r4, rv b (some p4)]) (rest := []) (st2 := []) G (c_Pa_keep l D ca b k8 k_p4 e17) (mb_Pa_keep G.2.2.2.2.1) (q367 G.2.2.2.2.1) (q366 G.2.2.2.2.1) rfl rfl (Nat.le_of_ble_eq_true rfl) ⟨Nat.le_trans (Nat.le_of_ble_eq_true rfl) hR.1, Nat.le_trans (Nat.le_of_ble_eq_true rfl) hR.2⟩ ⟨Nat.zero_le _, Nat.zero_le _⟩ rfl rfl dX3_takesMark_51 ?_
        refine g_iconst (pc := 54) G (v := 1) dX3_takesMark_54 (by decide) ?_
        cases h
        exact g_zret (pc := 55) G rfl dX3_takesMark_55
      · rw [if_neg c7] at h
        refine g_iconst (pc := 35) G (v := 0) dX3_takesMark_35 (by decide) ?_
        cases h
        exact g_zret (pc := 36) G rfl dX3_takesMark_36
theorem c_Pa_takesMark (l : Launch) (D : va_G) (ca : Nat → ClassId) (b : Nat) {T : Tx} {V : Vx} {p1 : Nat} {p2 : Int32} {p3 : Int32} {p4 : Nat} {rr : Int32} {Vf : Vx} (k_p1 : kd T p1 = 1) (k_p4 : kd T p4 = 2) (h : Pa_takesMark T V p1 p2 p3 p4 = some (rr, Vf)) : MG l yX3_takesMark cX3_takesMark 6 (Option.some Jvm.ClassFile.FieldType.boolean) 2 44 0 0 D ca b [rv b (some p1), .int p2, .int p3, rv b (some p4)] T V (some (.int rr)) T Vf :=
  MG.ofWG (L := [(0, rv b (some p1)), (1, .int p2), (2, .int p3), (3, rv b (some p4))]) (by decide +kernel) rfl (Nat.le_of_ble_eq_true rfl) (fun _ _ _ _ _ _ _ G _ => w_Pa_takesMark G ⟨Nat.le_refl _, Nat.le_refl _⟩ k_p1 k_p4 h)
set_option maxHeartbeats 4000000 in
set_option maxRecDepth 100000 in
theorem w_Pa_takesWord {p : Program} {l : Launch} {e : Env} {R : Room} {s : State} {m : MethodId} {args : Array Value} {below : List Frame} {meth : Method} {c : Code} {D : va_G} {ca : Nat → ClassId} {b : Nat} {T : Tx} {V : Vx} (G : GX p s m meth c cX3_takesWord 6 (Option.some Jvm.ClassFile.FieldType.boolean) RX3 "takesWord" D ca b) (hR : 2 ≤ R.frames ∧ 47 ≤ R.locals) {p1 : Nat} {p2 : Int32} {p3 : Int32} {p4 : Nat} {rr : Int32} {Vf : Vx} (k_p1 : kd T p1 = 1) (k_p4 : kd T p4 = 2) (h : Pa_takesWord T V p1 p2 p3 p4 = some (rr, Vf)) : WG p l e R s m args below meth c D ca b 6 (QG D ca b (some (.int rr)) T Vf below args s 0 0) 0 0 T V 0 [(0, rv b (some p1)), (1, .int p2), (2, .int p3), (3, rv b (some p4))] [] := by
  unfold Pa_takesWord at h
  refine g_aload_n (pc := 0) G dX3_takesWord_0 3 rfl ?_
  obtain ⟨r2, e1, h⟩ := bd_e h
  refine g_callV (pc := 1) (As := []) (rest := []) (st2 := [rv b r2]) G (c_Lx_nextWord l D ca b k_p4 e1) (mb_Lx_nextWord G.2.2.2.2.1) (q380 G.2.2.2.2.1) (q381 G.2.2.2.2.1) (q379 G.2.2.2.2.1) ci_2 k_p4 rfl rfl (Nat.le_of_ble_eq_true rfl) ⟨Nat.le_trans (Nat.le_of_ble_eq_true rfl) hR.1, Nat.le_trans (Nat.le_of_ble_eq_true rfl) hR.2⟩ ⟨Nat.zero_le _, Nat.zero_le _⟩ rfl rfl dX3_takesWord_1 ?_
  refine g_astore (L' := [(4, rv b r2), (0, rv b (some p1)), (1, .int p2), (2, .int p3), (3, rv b (some p4))]) (pc := 4) G dX3_takesWord_4 (by decide) rfl ?_
  refine g_aload_n (pc := 6) G dX3_takesWord_6 1 rfl ?_
  refine g_iload_n (pc := 7) G dX3_takesWord_7 2 rfl ?_
  refine g_iconst (pc := 8) G (v := 1) dX3_takesWord_8 (by decide) ?_
  refine g_iadd (pc := 9) G dX3_takesWord_9 ?_
  refine g_iconst (pc := 10) G (v := 5) dX3_takesWord_10 (by decide) ?_
  obtain ⟨r4, e3, h⟩ := bd_e h
  refine g_callS (pc := 11) (As := [rv b (some p1), .int (p2 + 1), .int 5]) (rest := []) (st2 := [.int r4]) G (c_Pa_digitAt l D ca b k_p1 e3) (mb_Pa_digitAt G.2.2.2.2.1) (q355 G.2.2.2.2.1) (q354 G.2.2.2.2.1) rfl rfl (Nat.le_of_ble_eq_true rfl) ⟨Nat.le_trans (Nat.le_of_ble_eq_true rfl) hR.1, Nat.le_trans (Nat.le_of_ble_eq_true rfl) hR.2⟩ ⟨Nat.zero_le _, Nat.zero_le _⟩ rfl rfl dX3_takesWord_11 ?_
  refine g_istore (L' := [(5, .int r4), (4, rv b r2), (0, rv b (some p1)), (1, .int p2), (2, .int p3), (3, rv b (some p4))]) (pc := 14) G dX3_takesWord_14 (by decide) (by cases r2 <;> rfl) ?_
  refine g_aload (pc := 16) G dX3_takesWord_16 1 rfl ?_
  cases r2 with
  | none =>
    dsimp only at h
    refine g_ifnullN (pc := 18) G 40 dX3_takesWord_18 (by decide) ?_
    refine g_iconst (pc := 40) G (v := 0) dX3_takesWord_40 (by decide) ?_
    cases h
    exact g_zret (pc := 41) G rfl dX3_takesWord_41
  | some r5 =>
    dsimp only at h
    refine g_ifnullS (pc := 18) G dX3_takesWord_18 ?_
    refine g_iload (pc := 21) G dX3_takesWord_21 0 rfl ?_
    refine g_bipush (pc := 23) G (v := (-4)) dX3_takesWord_23 (by decide) ?_
    refine g_icmp_eq (pc := 25) G 40 dX3_takesWord_25 (by decide) (fun c6 => ?_) (fun c6 => ?_)
    · rw [if_pos c6] at h
      refine g_iconst (pc := 40) G (v := 0) dX3_takesWord_40 (by decide) ?_
      cases h
      exact g_zret (pc := 41) G rfl dX3_takesWord_41
    · rw [if_neg c6] at h
      refine g_aload_n (pc := 28) G dX3_takesWord_28 2 rfl ?_
      refine g_iload_n (pc := 29) G dX3_takesWord_29 3 rfl ?_
      refine g_iconst (pc := 30) G (v := 2) dX3_takesWord_30 (by decide) ?_
      refine g_iadd (pc := 31) G dX3_takesWord_31 ?_
      obtain ⟨r8, e7, h⟩ := bd_e h
      refine g_callV (pc := 32) (As := [.int (p2 + 2)]) (rest := []) (st2 := [.int r8]) G (c_Le_at l D ca b k_p1 e7) (mb_Le_at G.2.2.2.2.1) (q340 G.2.2.2.2.1) (q341 G.2.2.2.2.1) (q346 G.2.2.2.2.1) ci_1 k_p1 rfl rfl (Nat.le_of_ble_eq_true rfl) ⟨Nat.le_trans (Nat.le_of_ble_eq_true rfl) hR.1, Nat.le_trans (Nat.le_of_ble_eq_true rfl) hR.2⟩ ⟨Nat.zero_le _, Nat.zero_le _⟩ rfl rfl dX3_takesWord_32 ?_
      refine g_bipush (pc := 35) G (v := 44) dX3_takesWord_35 (by decide) ?_
      refine g_icmp_eq (pc := 37) G 42 dX3_takesWord_37 (by decide) (fun c9 => ?_) (fun c9 => ?_)
      · rw [if_pos c9] at h
        refine g_aload (pc := 42) G dX3_takesWord_42 1 rfl ?_
        obtain ⟨r12, e11, h⟩ := bd_e h
        have k10 : kd T r5 = 7 := by
          obtain ⟨ee, k0⟩ := ck_e e11
          cases ee
          exact k0
        obtain ⟨r13, e14, h⟩ := bd_e h
        obtain ⟨f15, k16⟩ := ck_e e14
        refine g_getRN (pc := 44) G ci_7 (uw_7 G.2.2.2.2.1) (k := 0) (by decide) rfl rfl k10 (q289 G.2.2.2.2.1) dX3_takesWord_44 f15 ?_
        refine g_aload_n (pc := 47) G dX3_takesWord_47 2 rfl ?_
        refine g_iload_n (pc := 48) G dX3_takesWord_48 3 rfl ?_
        refine g_iconst (pc := 49) G (v := 3) dX3_takesWord_49 (by decide) ?_
        refine g_iadd (pc := 50) G dX3_takesWord_50 ?_
        refine g_iload_n (pc := 51) G dX3_takesWord_51 4 rfl ?_
        obtain ⟨r19, V18, e17, h⟩ := bd2_e h
        refine g_callV (pc := 52) (As := [rv b (some p1), .int (p2 + 3), .int p3]) (rest := []) (st2 := [.int r19]) G (c_Le_become l D ca b k16 k_p1 e17) (mb_Le_become G.2.2.2.2.1) (q358 G.2.2.2.2.1) (q359 G.2.2.2.2.1) (q357 G.2.2.2.2.1) ci_1 k16 rfl rfl (Nat.le_of_ble_eq_true rfl) ⟨Nat.le_trans (Nat.le_of_ble_eq_true rfl) hR.1, Nat.le_trans (Nat.le_of_ble_eq_true rfl) hR.2⟩ ⟨Nat.zero_le _, Nat.zero_le _⟩ rfl rfl dX3_takesWord_52 ?_
        refine g_if_eq (pc := 55) G 74 dX3_takesWord_55 (by decide) (fun c20 => ?_) (fun c20 => ?_)
        · rw [if_pos c20] at h
          refine g_iconst (pc := 74) G (v := 0) dX3_takesWord_74 (by decide) ?_
          cases h
          exact g_zret (pc := 75) G rfl dX3_takesWord_75
        · rw [if_neg c20] at h
          refine g_aload_n (pc := 58) G dX3_takesWord_58 5 rfl ?_
          refine g_iload (pc := 59) G dX3_takesWord_59 0 rfl ?_
          refine g_aload (pc := 61) G dX3_takesWord_61 1 rfl ?_
          obtain ⟨r21, e22, h⟩ := bd_e h
          obtain ⟨f23, k24⟩ := ck_e e22
          refine g_getRN (pc := 63) G ci_7 (uw_7 G.2.2.2.2.1) (k := 0) (by decide) rfl rfl k10 (q289 G.2.2.2.2.1) dX3_takesWord_63 f23 ?_
          obtain ⟨r26, e25, h⟩ := bd_e h
          refine g_callV (pc := 66) (As := [.int r4, rv b (some r21)]) (rest := []) (st2 := [.int r26]) G (c_Lx_wordOf l D ca b k_p4 k24 e25) (mb_Lx_wordOf G.2.2.2.2.1) (q384 G.2.2.2.2.1) (q385 G.2.2.2.2.1) (q383 G.2.2.2.2.1) ci_2 k_p4 rfl rfl (Nat.le_of_ble_eq_true rfl) ⟨Nat.le_trans (Nat.le_of_ble_eq_true rfl) hR.1, Nat.le_trans (Nat.le_of_ble_eq_true rfl) hR.2⟩ ⟨Nat.zero_le _, Nat.zero_le _⟩ rfl rfl dX3_takesWord_66 ?_
          refine g_bipush (pc := 69) G (v := (-4)) dX3_takesWord_69 (by decide) ?_
          refine g_icmp_eq (pc := 71) G 76 dX3_takesWord_71 (by decide) (fun c27 => ?_) (fun c27 => ?_)
          · rw [if_pos c27] at h
            refine g_aload (pc := 76) G dX3_takesWord_76 1 rfl ?_
            refine g_iload (pc := 78) G dX3_takesWord_78 0 rfl ?_
            obtain ⟨V28, e29, h⟩ := lt_e h
            refine g_putIN (pc := 80) G ci_7 (uw_7 G.2.2.2.2.1) (k := 1) (by decide) rfl rfl k10 rfl ⟨rfl, rfl⟩ (q293 G.2.2.2.2.1) e29 dX3_takesWord_80 ?_
            refine g_aload_n (pc := 83) G dX3_takesWord_83 5 rfl ?_
            refine g_dup (pc := 84) G dX3_takesWord_84 rfl ?_
            refine g_getIN (pc := 85) G ci_2 (uw_2 G.2.2.2.2.1) (k := 3) (by decide) rfl rfl k_p4 (q309 G.2.2.2.2.1) dX3_takesWord_85 ?_
            refine g_iconst (pc := 88) G (v := 1) dX3_takesWord_88 (by decide) ?_
            refine g_iadd (pc := 89) G dX3_takesWord_89 ?_
            obtain ⟨V30, e31, h⟩ := lt_e h
            refine g_putIN (pc := 90) G ci_2 (uw_2 G.2.2.2.2.1) (k := 3) (by decide) rfl rfl k_p4 rfl ⟨rfl, rfl⟩ (q309 G.2.2.2.2.1) e31 dX3_takesWord_90 ?_
            refine g_iconst (pc := 93) G (v := 1) dX3_takesWord_93 (by decide) ?_
            cases h
            exact g_zret (pc := 94) G rfl dX3_takesWord_94
          · rw [if_neg c27] at h
            refine g_iconst (pc := 74) G (v := 0) dX3_takesWord_74 (by decide) ?_
            cases h
            exact g_zret (pc := 75) G rfl dX3_takesWord_75
      · rw [if_neg c9] at h
        refine g_iconst (pc := 40) G (v := 0) dX3_takesWord_40 (by decide) ?_
        cases h
        exact g_zret (pc := 41) G rfl dX3_takesWord_41
theorem c_Pa_takesWord (l : Launch) (D : va_G) (ca : Nat → ClassId) (b : Nat) {T : Tx} {V : Vx} {p1 : Nat} {p2 : Int32} {p3 : Int32} {p4 : Nat} {rr : Int32} {Vf : Vx} (k_p1 : kd T p1 = 1) (k_p4 : kd T p4 = 2) (h : Pa_takesWord T V p1 p2 p3 p4 = some (rr, Vf)) : MG l yX3_takesWord cX3_takesWord 6 (Option.some Jvm.ClassFile.FieldType.boolean) 2 47 0 0 D ca b [rv b (some p1), .int p2, .int p3, rv b (some p4)] T V (some (.int rr)) T Vf :=
  MG.ofWG (L := [(0, rv b (some p1)), (1, .int p2), (2, .int p3), (3, rv b (some p4))]) (by decide +kernel) rfl (Nat.le_of_ble_eq_true rfl) (fun _ _ _ _ _ _ _ G _ => w_Pa_takesWord G ⟨Nat.le_refl _, Nat.le_refl _⟩ k_p1 k_p4 h)
set_option maxHeartbeats 4000000 in
set_option maxRecDepth 100000 in
theorem w_Pa_takesLaw {p : Program} {l : Launch} {e : Env} {R : Room} {s : State} {m : MethodId} {args : Array Value} {below : List Frame} {meth : Method} {c : Code} {D : va_G} {ca : Nat → ClassId} {b : Nat} {T : Tx} {V : Vx} (G : GX p s m meth c cX3_takesLaw 5 (Option.some Jvm.ClassFile.FieldType.boolean) RX3 "takesLaw" D ca b) (hR : 2 ≤ R.frames ∧ 44 ≤ R.locals) {p1 : Nat} {p2 : Int32} {p3 : Int32} {p4 : Nat} {rr : Int32} {Vf : Vx} (k_p1 : kd T p1 = 1) (k_p4 : kd T p4 = 2) (h : Pa_takesLaw T V p1 p2 p3 p4 = some (rr, Vf)) : WG p l e R s m args below meth c D ca b 5 (QG D ca b (some (.int rr)) T Vf below args s 0 0) 0 0 T V 0 [(0, rv b (some p1)), (1, .int p2), (2, .int p3), (3, rv b (some p4))] [] := by
  unfold Pa_takesLaw at h
  refine g_aload_n (pc := 0) G dX3_takesLaw_0 0 rfl ?_
  refine g_iload_n (pc := 1) G dX3_takesLaw_1 1 rfl ?_
  refine g_iconst (pc := 2) G (v := 1) dX3_takesLaw_2 (by decide) ?_
  refine g_iadd (pc := 3) G dX3_takesLaw_3 ?_
  refine g_iconst (pc := 4) G (v := 1) dX3_takesLaw_4 (by decide) ?_
  obtain ⟨r2, e1, h⟩ := bd_e h
  refine g_callS (pc := 5) (As := [rv b (some p1), .int (p2 + 1), .int 1]) (rest := []) (st2 := [.int r2]) G (c_Pa_digitAt l D ca b k_p1 e1) (mb_Pa_digitAt G.2.2.2.2.1) (q355 G.2.2.2.2.1) (q354 G.2.2.2.2.1) rfl rfl (Nat.le_of_ble_eq_true rfl) ⟨Nat.le_trans (Nat.le_of_ble_eq_true rfl) hR.1, Nat.le_trans (Nat.le_of_ble_eq_true rfl) hR.2⟩ ⟨Nat.zero_le _, Nat.zero_le _⟩ rfl rfl dX3_takesLaw_5 ?_
  refine g_istore (L' := [(4, .int r2), (0, rv b (some p1)), (1, .int p2), (2, .int p3), (3, rv b (some p4))]) (pc := 8) G dX3_takesLaw_8 (by decide) rfl ?_
  refine g_iload (pc := 10) G dX3_takesLaw_10 0 rfl ?_
  refine g_bipush (pc := 12) G (v := (-4)) dX3_takesLaw_12 (by decide) ?_
  refine g_icmp_eq (pc := 14) G 24 dX3_takesLaw_14 (by decide) (fun c3 => ?_) (fun c3 => ?_)
  · rw [if_pos c3] at h
    refine g_iconst (pc := 24) G (v := 0) dX3_takesLaw_24 (by decide) ?_
    cases h
    exact g_zret (pc := 25) G rfl dX3_takesLaw_25
  · rw [if_neg c3] at h
    refine g_iload_n (pc := 17) G dX3_takesLaw_17 3 rfl ?_
    refine g_iload_n (pc := 18) G dX3_takesLaw_18 2 rfl ?_
    refine g_iconst (pc := 19) G (v := 2) dX3_takesLaw_19 (by decide) ?_
    refine g_iadd (pc := 20) G dX3_takesLaw_20 ?_
    refine g_icmp_eq (pc := 21) G 26 dX3_takesLaw_21 (by decide) (fun c4 => ?_) (fun c4 => ?_)
    · rw [if_pos c4] at h
      refine g_aload_n (pc := 26) G dX3_takesLaw_26 4 rfl ?_
      refine g_iload (pc := 27) G dX3_takesLaw_27 0 rfl ?_
      refine g_iconst (pc := 29) G (v := 1) dX3_takesLaw_29 (by decide) ?_
      refine g_icmp_ne (pc := 30) G 37 dX3_takesLaw_30 (by decide) (fun c5 => ?_) (fun c5 => ?_)
      · rw [if_neg c5] at h
        refine g_iconst (pc := 37) G (v := 0) dX3_takesLaw_37 (by decide) ?_
        obtain ⟨V6, e7, h⟩ := lt_e h
        refine g_putIN (pc := 38) G ci_2 (uw_2 G.2.2.2.2.1) (k := 4) (by decide) rfl rfl k_p4 rfl (zo_n rfl) (q312 G.2.2.2.2.1) e7 dX3_takesLaw_38 ?_
        refine g_iconst (pc := 41) G (v := 1) dX3_takesLaw_41 (by decide) ?_
        cases h
        exact g_zret (pc := 42) G rfl dX3_takesLaw_42
      · rw [if_pos c5] at h
        refine g_iconst (pc := 33) G (v := 1) dX3_takesLaw_33 (by decide) ?_
        refine g_goto (pc := 34) G 38 dX3_takesLaw_34 (by decide) ?_
        obtain ⟨V8, e9, h⟩ := lt_e h
        refine g_putIN (pc := 38) G ci_2 (uw_2 G.2.2.2.2.1) (k := 4) (by decide) rfl rfl k_p4 rfl (zo_n rfl) (q312 G.2.2.2.2.1) e9 dX3_takesLaw_38 ?_
        refine g_iconst (pc := 41) G (v := 1) dX3_takesLaw_41 (by decide) ?_
        cases h
        exact g_zret (pc := 42) G rfl dX3_takesLaw_42
    · rw [if_neg c4] at h
      refine g_iconst (pc := 24) G (v := 0) dX3_takesLaw_24 (by decide) ?_
      cases h
      exact g_zret (pc := 25) G rfl dX3_takesLaw_25
theorem c_Pa_takesLaw (l : Launch) (D : va_G) (ca : Nat → ClassId) (b : Nat) {T : Tx} {V : Vx} {p1 : Nat} {p2 : Int32} {p3 : Int32} {p4 : Nat} {rr : Int32} {Vf : Vx} (k_p1 : kd T p1 = 1) (k_p4 : kd T p4 = 2) (h : Pa_takesLaw T V p1 p2 p3 p4 = some (rr, Vf)) : MG l yX3_takesLaw cX3_takesLaw 5 (Option.some Jvm.ClassFile.FieldType.boolean) 2 44 0 0 D ca b [rv b (some p1), .int p2, .int p3, rv b (some p4)] T V (some (.int rr)) T Vf :=
  MG.ofWG (L := [(0, rv b (some p1)), (1, .int p2), (2, .int p3), (3, rv b (some p4))]) (by decide +kernel) rfl (Nat.le_of_ble_eq_true rfl) (fun _ _ _ _ _ _ _ G _ => w_Pa_takesLaw G ⟨Nat.le_refl _, Nat.le_refl _⟩ k_p1 k_p4 h)
set_option maxHeartbeats 4000000 in
set_option maxRecDepth 100000 in
theorem w_Pa_takesItem {p : Program} {l : Launch} {e : Env} {R : Room} {s : State} {m : MethodId} {args : Array Value} {below : List Frame} {meth : Method} {c : Code} {D : va_G} {ca : Nat → ClassId} {b : Nat} {T : Tx} {V : Vx} (G : GX p s m meth c cX3_takesItem 4 (Option.some Jvm.ClassFile.FieldType.boolean) RX3 "takesItem" D ca b) (hR : 3 ≤ R.frames ∧ 72 ≤ R.locals) {p1 : Nat} {p2 : Int32} {p3 : Int32} {p4 : Nat} {rr : Int32} {Vf : Vx} (k_p1 : kd T p1 = 1) (k_p4 : kd T p4 = 2) (h : Pa_takesItem T V p1 p2 p3 p4 = some (rr, Vf)) : WG p l e R s m args below meth c D ca b 4 (QG D ca b (some (.int rr)) T Vf below args s 0 0) 0 0 T V 0 [(0, rv b (some p1)), (1, .int p2), (2, .int p3), (3, rv b (some p4))] [] := by
  unfold Pa_takesItem at h
  refine g_aload_n (pc := 0) G dX3_takesItem_0 0 rfl ?_
  refine g_iload_n (pc := 1) G dX3_takesItem_1 1 rfl ?_
  obtain ⟨r2, e1, h⟩ := bd_e h
  refine g_callV (pc := 2) (As := [.int p2]) (rest := []) (st2 := [.int r2]) G (c_Le_at l D ca b k_p1 e1) (mb_Le_at G.2.2.2.2.1) (q340 G.2.2.2.2.1) (q341 G.2.2.2.2.1) (q346 G.2.2.2.2.1) ci_1 k_p1 rfl rfl (Nat.le_of_ble_eq_true rfl) ⟨Nat.le_trans (Nat.le_of_ble_eq_true rfl) hR.1, Nat.le_trans (Nat.le_of_ble_eq_true rfl) hR.2⟩ ⟨Nat.zero_le _, Nat.zero_le _⟩ rfl rfl dX3_takesItem_2 ?_
  by_cases c3 : r2 = 107
  · rw [if_pos c3] at h
    have K8 : WG p l e R s m args below meth c D ca b 4 (QG D ca b (some (.int rr)) T Vf below args s 0 0) 0 0 T V 104 [(0, rv b (some p1)), (1, .int p2), (2, .int p3), (3, rv b (some p4))] [] := by
      refine g_aload_n (pc := 104) G dX3_takesItem_104 0 rfl ?_
      refine g_iload_n (pc := 105) G dX3_takesItem_105 1 rfl ?_
      refine g_iload_n (pc := 106) G dX3_takesItem_106 2 rfl ?_
      refine g_aload_n (pc := 107) G dX3_takesItem_107 3 rfl ?_
      obtain ⟨r6, V5, e4, h⟩ := bd2_e h
      refine g_callS (pc := 108) (As := [rv b (some p1), .int p2, .int p3, rv b (some p4)]) (rest := []) (st2 := [.int r6]) G (c_Pa_takesLaw l D ca b k_p1 k_p4 e4) (mb_Pa_takesLaw G.2.2.2.2.1) (q397 G.2.2.2.2.1) (q396 G.2.2.2.2.1) rfl rfl (Nat.le_of_ble_eq_true rfl) ⟨Nat.le_trans (Nat.le_of_ble_eq_true rfl) hR.1, Nat.le_trans (Nat.le_of_ble_eq_true rfl) hR.2⟩ ⟨Nat.zero_le _, Nat.zero_le _⟩ rfl rfl dX3_takesItem_108 ?_
      obtain ⟨z7, h⟩ := gd_e h
      cases h
      exact g_zret (pc := 111) G z7 dX3_takesItem_111
    exact g_tabI (pc := 5) G 104 dX3_takesItem_5 (by rw [c3] <;> decide) (by rw [c3] <;> decide) (by rw [c3] <;> rfl) (by decide) K8
  · rw [if_neg c3] at h
    by_cases c9 : r2 = 109
    · rw [if_pos c9] at h
      have K14 : WG p l e R s m args below meth c D ca b 4 (QG D ca b (some (.int rr)) T Vf below args s 0 0) 0 0 T V 88 [(0, rv b (some p1)), (1, .int p2), (2, .int p3), (3, rv b (some p4))] [] := by
        refine g_aload_n (pc := 88) G dX3_takesItem_88 0 rfl ?_
        refine g_iload_n (pc := 89) G dX3_takesItem_89 1 rfl ?_
        refine g_iload_n (pc := 90) G dX3_takesItem_90 2 rfl ?_
        refine g_aload_n (pc := 91) G dX3_takesItem_91 3 rfl ?_
        obtain ⟨r12, V11, e10, h⟩ := bd2_e h
        refine g_callS (pc := 92) (As := [rv b (some p1), .int p2, .int p3, rv b (some p4)]) (rest := []) (st2 := [.int r12]) G (c_Pa_takesMark l D ca b k_p1 k_p4 e10) (mb_Pa_takesMark G.2.2.2.2.1) (q373 G.2.2.2.2.1) (q372 G.2.2.2.2.1) rfl rfl (Nat.le_of_ble_eq_true rfl) ⟨Nat.le_trans (Nat.le_of_ble_eq_true rfl) hR.1, Nat.le_trans (Nat.le_of_ble_eq_true rfl) hR.2⟩ ⟨Nat.zero_le _, Nat.zero_le _⟩ rfl rfl dX3_takesItem_92 ?_
        obtain ⟨z13, h⟩ := gd_e h
        cases h
        exact g_zret (pc := 95) G z13 dX3_takesItem_95
      exact g_tabI (pc := 5) G 88 dX3_takesItem_5 (by rw [c9] <;> decide) (by rw [c9] <;> decide) (by rw [c9] <;> rfl) (by decide) K14
    · rw [if_neg c9] at h
      by_cases c15 : r2 = 112
      · rw [if_pos c15] at h
        have K20 : WG p l e R s m args below meth c D ca b 4 (QG D ca b (some (.int rr)) T Vf below args s 0 0) 0 0 T V 72 [(0, rv b (some p1)), (1, .int p2), (2, .int p3), (3, rv b (some p4))] [] := by
          refine g_aload_n (pc := 72) G dX3_takesItem_72 0 rfl ?_
          refine g_iload_n (pc := 73) G dX3_takesItem_73 1 rfl ?_
          refine g_iload_n (pc := 74) G dX3_takesItem_74 2 rfl ?_
          refine g_aload_n (pc := 75) G dX3_takesItem_75 3 rfl ?_
          obtain ⟨r18, V17, e16, h⟩ := bd2_e h
          refine g_callS (pc := 76) (As := [rv b (some p1), .int p2, .int p3, rv b (some p4)]) (rest := []) (st2 := [.int r18]) G (c_Pa_takesPicture l D ca b k_p1 k_p4 e16) (mb_Pa_takesPicture G.2.2.2.2.1) (q348 G.2.2.2.2.1) (q347 G.2.2.2.2.1) rfl rfl (Nat.le_of_ble_eq_true rfl) ⟨Nat.le_trans (Nat.le_of_ble_eq_true rfl) hR.1, Nat.le_trans (Nat.le_of_ble_eq_true rfl) hR.2⟩ ⟨Nat.zero_le _, Nat.zero_le _⟩ rfl rfl dX3_takesItem_76 ?_
          obtain ⟨z19, h⟩ := gd_e h
          cases h
          exact g_zret (pc := 79) G z19 dX3_takesItem_79
        exact g_tabI (pc := 5) G 72 dX3_takesItem_5 (by rw [c15] <;> decide) (by rw [c15] <;> decide) (by rw [c15] <;> rfl) (by decide) K20
      · rw [if_neg c15] at h
        by_cases c21 : r2 = 115
        · rw [if_pos c21] at h
          have K26 : WG p l e R s m args below meth c D ca b 4 (QG D ca b (some (.int rr)) T Vf below args s 0 0) 0 0 T V 80 [(0, rv b (some p1)), (1, .int p2), (2, .int p3), (3, rv b (some p4))] [] := by
            refine g_aload_n (pc := 80) G dX3_takesItem_80 0 rfl ?_
            refine g_iload_n (pc := 81) G dX3_takesItem_81 1 rfl ?_
            refine g_iload_n (pc := 82) G dX3_takesItem_82 2 rfl ?_
            refine g_aload_n (pc := 83) G dX3_takesItem_83 3 rfl ?_
            obtain ⟨r24, V23, e22, h⟩ := bd2_e h
            refine g_callS (pc := 84) (As := [rv b (some p1), .int p2, .int p3, rv b (some p4)]) (rest := []) (st2 := [.int r24]) G (c_Pa_takesSound l D ca b k_p1 k_p4 e22) (mb_Pa_takesSound G.2.2.2.2.1) (q370 G.2.2.2.2.1) (q369 G.2.2.2.2.1) rfl rfl (Nat.le_of_ble_eq_true rfl) ⟨Nat.le_trans (Nat.le_of_ble_eq_true rfl) hR.1, Nat.le_trans (Nat.le_of_ble_eq_true rfl) hR.2⟩ ⟨Nat.zero_le _, Nat.zero_le _⟩ rfl rfl dX3_takesItem_84 ?_
            obtain ⟨z25, h⟩ := gd_e h
            cases h
            exact g_zret (pc := 87) G z25 dX3_takesItem_87
          exact g_tabI (pc := 5) G 80 dX3_takesItem_5 (by rw [c21] <;> decide) (by rw [c21] <;> decide) (by rw [c21] <;> rfl) (by decide) K26
        · rw [if_neg c21] at h
          by_cases c27 : r2 = 119
          · rw [if_pos c27] at h
            have K32 : WG p l e R s m args below meth c D ca b 4 (QG D ca b (some (.int rr)) T Vf below args s 0 0) 0 0 T V 96 [(0, rv b (some p1)), (1, .int p2), (2, .int p3), (3, rv b (some p4))] [] := by
              refine g_aload_n (pc := 96) G dX3_takesItem_96 0 rfl ?_
              refine g_iload_n (pc := 97) G dX3_takesItem_97 1 rfl ?_
              refine g_iload_n (pc := 98) G dX3_takesItem_98 2 rfl ?_
              refine g_aload_n (pc := 99) G dX3_takesItem_99 3 rfl ?_
              obtain ⟨r30, V29, e28, h⟩ := bd2_e h
              refine g_callS (pc := 100) (As := [rv b (some p1), .int p2, .int p3, rv b (some p4)]) (rest := []) (st2 := [.int r30]) G (c_Pa_takesWord l D ca b k_p1 k_p4 e28) (mb_Pa_takesWord G.2.2.2.2.1) (q377 G.2.2.2.2.1) (q376 G.2.2.2.2.1) rfl rfl (Nat.le_of_ble_eq_true rfl) ⟨Nat.le_trans (Nat.le_of_ble_eq_true rfl) hR.1, Nat.le_trans (Nat.le_of_ble_eq_true rfl) hR.2⟩ ⟨Nat.zero_le _, Nat.zero_le _⟩ rfl rfl dX3_takesItem_100 ?_
              obtain ⟨z31, h⟩ := gd_e h
              cases h
              exact g_zret (pc := 103) G z31 dX3_takesItem_103
            exact g_tabI (pc := 5) G 96 dX3_takesItem_5 (by rw [c27] <;> decide) (by rw [c27] <;> decide) (by rw [c27] <;> rfl) (by decide) K32
          · rw [if_neg c27] at h
            have K33 : WG p l e R s m args below meth c D ca b 4 (QG D ca b (some (.int rr)) T Vf below args s 0 0) 0 0 T V 112 [(0, rv b (some p1)), (1, .int p2), (2, .int p3), (3, rv b (some p4))] [] := by
              refine g_iconst (pc := 112) G (v := 0) dX3_takesItem_112 (by decide) ?_
              cases h
              exact g_zret (pc := 113) G rfl dX3_takesItem_113
            by_cases c34 : r2 = 108
            · exact g_tabI (pc := 5) G 112 dX3_takesItem_5 (by rw [c34] <;> decide) (by rw [c34] <;> decide) (by rw [c34] <;> rfl) (by decide) K33
            by_cases c35 : r2 = 110
            · exact g_tabI (pc := 5) G 112 dX3_takesItem_5 (by rw [c35] <;> decide) (by rw [c35] <;> decide) (by rw [c35] <;> rfl) (by decide) K33
            by_cases c36 : r2 = 111
            · exact g_tabI (pc := 5) G 112 dX3_takesItem_5 (by rw [c36] <;> decide) (by rw [c36] <;> decide) (by rw [c36] <;> rfl) (by decide) K33
            by_cases c37 : r2 = 113
            · exact g_tabI (pc := 5) G 112 dX3_takesItem_5 (by rw [c37] <;> decide) (by rw [c37] <;> decide) (by rw [c37] <;> rfl) (by decide) K33
            by_cases c38 : r2 = 114
            · exact g_tabI (pc := 5) G 112 dX3_takesItem_5 (by rw [c38] <;> decide) (by rw [c38] <;> decide) (by rw [c38] <;> rfl) (by decide) K33
            by_cases c39 : r2 = 116
            · exact g_tabI (pc := 5) G 112 dX3_takesItem_5 (by rw [c39] <;> decide) (by rw [c39] <;> decide) (by rw [c39] <;> rfl) (by decide) K33
            by_cases c40 : r2 = 117
            · exact g_tabI (pc := 5) G 112 dX3_takesItem_5 (by rw [c40] <;> decide) (by rw [c40] <;> decide) (by rw [c40] <;> rfl) (by decide) K33
            by_cases c41 : r2 = 118
            · exact g_tabI (pc := 5) G 112 dX3_takesItem_5 (by rw [c41] <;> decide) (by rw [c41] <;> decide) (by rw [c41] <;> rfl) (by decide) K33
            have c34T := lv_neT (a := 108) c34 (by decide)
            have c35T := lv_neT (a := 110) c35 (by decide)
            have c36T := lv_neT (a := 111) c36 (by decide)
            have c37T := lv_neT (a := 113) c37 (by decide)
            have c38T := lv_neT (a := 114) c38 (by decide)
            have c39T := lv_neT (a := 116) c39 (by decide)
            have c40T := lv_neT (a := 117) c40 (by decide)
            have c41T := lv_neT (a := 118) c41 (by decide)
            have c3T := lv_neT (a := 107) c3 (by decide)
            have c9T := lv_neT (a := 109) c9 (by decide)
            have c15T := lv_neT (a := 112) c15 (by decide)
            have c21T := lv_neT (a := 115) c21 (by decide)
            have c27T := lv_neT (a := 119) c27 (by decide)
            exact g_tabO (pc := 5) G 112 dX3_takesItem_5 (by omega) (by decide) K33
theorem c_Pa_takesItem (l : Launch) (D : va_G) (ca : Nat → ClassId) (b : Nat) {T : Tx} {V : Vx} {p1 : Nat} {p2 : Int32} {p3 : Int32} {p4 : Nat} {rr : Int32} {Vf : Vx} (k_p1 : kd T p1 = 1) (k_p4 : kd T p4 = 2) (h : Pa_takesItem T V p1 p2 p3 p4 = some (rr, Vf)) : MG l yX3_takesItem cX3_takesItem 4 (Option.some Jvm.ClassFile.FieldType.boolean) 3 72 0 0 D ca b [rv b (some p1), .int p2, .int p3, rv b (some p4)] T V (some (.int rr)) T Vf :=
  MG.ofWG (L := [(0, rv b (some p1)), (1, .int p2), (2, .int p3), (3, rv b (some p4))]) (by decide +kernel) rfl (Nat.le_of_ble_eq_true rfl) (fun _ _ _ _ _ _ _ G _ => w_Pa_takesItem G ⟨Nat.le_refl _, Nat.le_refl _⟩ k_p1 k_p4 h)
set_option maxHeartbeats 4000000 in
set_option maxRecDepth 100000 in
theorem w_Pa_firstFault {p : Program} {l : Launch} {e : Env} {R : Room} {s : State} {m : MethodId} {args : Array Value} {below : List Frame} {meth : Method} {c : Code} {D : va_G} {ca : Nat → ClassId} {b : Nat} {T : Tx} {V : Vx} (G : GX p s m meth c cX3_firstFault 4 (Option.some Jvm.ClassFile.FieldType.int) RX3 "firstFault" D ca b) (hR : 4 ≤ R.frames ∧ 95 ≤ R.locals) {p1 : Nat} {p2 : Nat} {rr : Int32} {Vf : Vx} (k_p1 : kd T p1 = 1) (k_p2 : kd T p2 = 2) (h : Pa_firstFault T V p1 p2 = some (rr, Vf)) : WG p l e R s m args below meth c D ca b 4 (QG D ca b (some (.int rr)) T Vf below args s 0 0) 0 0 T V 0 [(0, rv b (some p1)), (1, rv b (some p2))] [] := by
  unfold Pa_firstFault at h
  refine g_aload_n (pc := 0) G dX3_firstFault_0 1 rfl ?_
  obtain ⟨V2, e1, h⟩ := bd_e h
  refine g_callV (pc := 1) (As := []) (rest := []) (st2 := []) G (c_Lx_clear l D ca b k_p2 e1) (mb_Lx_clear G.2.2.2.2.1) (q328 G.2.2.2.2.1) (q329 G.2.2.2.2.1) (q327 G.2.2.2.2.1) ci_2 k_p2 rfl rfl (Nat.le_of_ble_eq_true rfl) ⟨Nat.le_trans (Nat.le_of_ble_eq_true rfl) hR.1, Nat.le_trans (Nat.le_of_ble_eq_true rfl) hR.2⟩ ⟨Nat.zero_le _, Nat.zero_le _⟩ rfl rfl dX3_firstFault_1 ?_
  refine g_iconst (pc := 4) G (v := 0) dX3_firstFault_4 (by decide) ?_
  refine g_istore_n (L' := [(2, .int 0), (0, rv b (some p1)), (1, rv b (some p2))]) (pc := 5) G dX3_firstFault_5 (by decide) rfl ?_
  have LP7 : ∀ (n3 : Nat) (V5 : Vx) (v4 : Int32), Pa_firstFault_L6 T p1 p2 n3 V5 v4 = some (rr, Vf) → WG p l e R s m args below meth c D ca b 4 (QG D ca b (some (.int rr)) T Vf below args s 0 0) 0 0 T V5 6 [(0, rv b (some p1)), (1, rv b (some p2)), (2, .int v4)] [] := by
    intro n3
    induction n3 with
    | zero =>
      intro V5 v4 h
      cases h
    | succ n3 ih6 =>
      intro V5 v4 h
      rw [Pa_firstFault_L6] at h
      refine g_iload_n (pc := 6) G dX3_firstFault_6 2 rfl ?_
      refine g_aload_n (pc := 7) G dX3_firstFault_7 0 rfl ?_
      obtain ⟨r9, e8, h⟩ := bd_e h
      refine g_callV (pc := 8) (As := []) (rest := [.int v4]) (st2 := [.int r9, .int v4]) G (c_Le_size l D ca b k_p1 e8) (mb_Le_size G.2.2.2.2.1) (q332 G.2.2.2.2.1) (q333 G.2.2.2.2.1) (q331 G.2.2.2.2.1) ci_1 k_p1 rfl rfl (Nat.le_of_ble_eq_true rfl) ⟨Nat.le_trans (Nat.le_of_ble_eq_true rfl) hR.1, Nat.le_trans (Nat.le_of_ble_eq_true rfl) hR.2⟩ ⟨Nat.zero_le _, Nat.zero_le _⟩ rfl rfl dX3_firstFault_8 ?_
      refine g_icmp_ge (pc := 11) G 46 dX3_firstFault_11 (by decide) (fun c10 => ?_) (fun c10 => ?_)
      · rw [if_pos c10] at h
        refine g_bipush (pc := 46) G (v := (-4)) dX3_firstFault_46 (by decide) ?_
        cases h
        exact g_iret (pc := 48) G dX3_firstFault_48
      · rw [if_neg c10] at h
        refine g_aload_n (pc := 14) G dX3_firstFault_14 0 rfl ?_
        refine g_bipush (pc := 15) G (v := 59) dX3_firstFault_15 (by decide) ?_
        refine g_iload_n (pc := 17) G dX3_firstFault_17 2 rfl ?_
        obtain ⟨r12, e11, h⟩ := bd_e h
        refine g_callV (pc := 18) (As := [.int 59, .int v4]) (rest := []) (st2 := [.int r12]) G (c_Le_find l D ca b k_p1 e11) (mb_Le_find G.2.2.2.2.1) (q336 G.2.2.2.2.1) (q337 G.2.2.2.2.1) (q335 G.2.2.2.2.1) ci_1 k_p1 rfl rfl (Nat.le_of_ble_eq_true rfl) ⟨Nat.le_trans (Nat.le_of_ble_eq_true rfl) hR.1, Nat.le_trans (Nat.le_of_ble_eq_true rfl) hR.2⟩ ⟨Nat.zero_le _, Nat.zero_le _⟩ rfl rfl dX3_firstFault_18 ?_
        refine g_istore_n (L' := [(3, .int r12), (0, rv b (some p1)), (1, rv b (some p2)), (2, .int v4)]) (pc := 21) G dX3_firstFault_21 (by decide) rfl ?_
        refine g_iload_n (pc := 22) G dX3_firstFault_22 0 rfl ?_
        refine g_iload_n (pc := 23) G dX3_firstFault_23 3 rfl ?_
        refine g_icmp_lt (pc := 24) G 37 dX3_firstFault_24 (by decide) (fun c13 => ?_) (fun c13 => ?_)
        · rw [if_pos c13] at h
          refine g_iload_n (pc := 37) G dX3_firstFault_37 3 rfl ?_
          cases h
          exact g_iret (pc := 38) G dX3_firstFault_38
        · rw [if_neg c13] at h
          refine g_aload_n (pc := 27) G dX3_firstFault_27 1 rfl ?_
          refine g_iload_n (pc := 28) G dX3_firstFault_28 3 rfl ?_
          refine g_iload_n (pc := 29) G dX3_firstFault_29 0 rfl ?_
          refine g_aload_n (pc := 30) G dX3_firstFault_30 2 rfl ?_
          obtain ⟨r16, V15, e14, h⟩ := bd2_e h
          refine g_callS (pc := 31) (As := [rv b (some p1), .int v4, .int r12, rv b (some p2)]) (rest := []) (st2 := [.int r16]) G (c_Pa_takesItem l D ca b k_p1 k_p2 e14) (mb_Pa_takesItem G.2.2.2.2.1) (q344 G.2.2.2.2.1) (q343 G.2.2.2.2.1) rfl rfl (Nat.le_of_ble_eq_true rfl) ⟨Nat.le_trans (Nat.le_of_ble_eq_true rfl) hR.1, Nat.le_trans (Nat.le_of_ble_eq_true rfl) hR.2⟩ ⟨Nat.zero_le _, Nat.zero_le _⟩ rfl rfl dX3_firstFault_31 ?_
          refine g_if_ne (pc := 34) G 39 dX3_firstFault_34 (by decide) (fun c17 => ?_) (fun c17 => ?_)
          · rw [if_neg c17] at h
            refine g_iload_n (pc := 39) G dX3_firstFault_39 0 rfl ?_
            refine g_iconst (pc := 40) G (v := 1) dX3_firstFault_40 (by decide) ?_
            refine g_iadd (pc := 41) G dX3_firstFault_41 ?_
            obtain ⟨x18, e19, h⟩ := lt_e h
            rw [e19]
            refine g_istore_n (L' := [(2, .int x18), (3, .int r12), (0, rv b (some p1)), (1, rv b (some p2))]) (pc := 42) G dX3_firstFault_42 (by decide) rfl ?_
            refine g_goto (pc := 43) G 6 dX3_firstFault_43 (by decide) ?_
            exact g_sub [2, 3, 0] rfl (ih6 _ _ h)
          · rw [if_pos c17] at h
            refine g_iload_n (pc := 37) G dX3_firstFault_37 3 rfl ?_
            cases h
            exact g_iret (pc := 38) G dX3_firstFault_38
  exact g_sub [1, 2, 0] rfl (LP7 _ _ _ h)
theorem c_Pa_firstFault (l : Launch) (D : va_G) (ca : Nat → ClassId) (b : Nat) {T : Tx} {V : Vx} {p1 : Nat} {p2 : Nat} {rr : Int32} {Vf : Vx} (k_p1 : kd T p1 = 1) (k_p2 : kd T p2 = 2) (h : Pa_firstFault T V p1 p2 = some (rr, Vf)) : MG l yX3_firstFault cX3_firstFault 4 (Option.some Jvm.ClassFile.FieldType.int) 4 95 0 0 D ca b [rv b (some p1), rv b (some p2)] T V (some (.int rr)) T Vf :=
  MG.ofWG (L := [(0, rv b (some p1)), (1, rv b (some p2))]) (by decide +kernel) rfl (Nat.le_of_ble_eq_true rfl) (fun _ _ _ _ _ _ _ G _ => w_Pa_firstFault G ⟨Nat.le_refl _, Nat.le_refl _⟩ k_p1 k_p2 h)
set_option maxHeartbeats 4000000 in
set_option maxRecDepth 100000 in
theorem w_Ja_fillI {p : Program} {l : Launch} {e : Env} {R : Room} {s : State} {m : MethodId} {args : Array Value} {below : List Frame} {meth : Method} {c : Code} {D : va_G} {ca : Nat → ClassId} {b : Nat} {T : Tx} {V : Vx} (G : GX p s m meth c cJ7_fill_53178 4 (Option.none : Option Jvm.ClassFile.FieldType) RJ7 "fill" D ca b) (hR : 0 ≤ R.frames ∧ 0 ≤ R.locals) {p1 : Nat} {p2 : Int32}  {Vf : Vx} (k_p1 : kd T p1 = 11) (h : Ja_fillI T V p1 p2 = some Vf) : WG p l e R s m args below meth c D ca b 4 (QG D ca b none T Vf below args s 0 0) 0 0 T V 0 [(0, rv b (some p1)), (1, .int p2)] [] := by
  unfold Ja_fillI at h
  refine g_iconst (pc := 0) G (v := 0) dJ7_fill_53178_0 (by decide) ?_
  refine g_istore_n (L' := [(2, .int 0), (0, rv b (some p1)), (1, .int p2)]) (pc := 1) G dJ7_fill_53178_1 (by decide) rfl ?_
  refine g_aload_n (pc := 2) G dJ7_fill_53178_2 1 rfl ?_
  refine g_alen (pc := 3) G (t0 := 1) k_p1 (by decide) rfl dJ7_fill_53178_3 ?_
  obtain ⟨x1, e2, h⟩ := lt_e h
  rw [e2]
  refine g_istore_n (L' := [(3, .int x1), (2, .int 0), (0, rv b (some p1)), (1, .int p2)]) (pc := 4) G dJ7_fill_53178_4 (by decide) rfl ?_
  have LP7 : ∀ (n3 : Nat) (V5 : Vx) (v4 : Int32), Ja_fillI_L5 T p1 p2 x1 n3 V5 v4 = some Vf → WG p l e R s m args below meth c D ca b 4 (QG D ca b none T Vf below args s 0 0) 0 0 T V5 5 [(0, rv b (some p1)), (1, .int p2), (2, .int v4), (3, .int x1)] [] := by
    intro n3
    induction n3 with
    | zero =>
      intro V5 v4 h
      cases h
    | succ n3 ih6 =>
      intro V5 v4 h
      rw [Ja_fillI_L5] at h
      refine g_iload_n (pc := 5) G dJ7_fill_53178_5 2 rfl ?_
      refine g_iload_n (pc := 6) G dJ7_fill_53178_6 3 rfl ?_
      refine g_icmp_ge (pc := 7) G 20 dJ7_fill_53178_7 (by decide) (fun c8 => ?_) (fun c8 => ?_)
      · rw [if_pos c8] at h
        cases h
        exact g_vret (pc := 20) G dJ7_fill_53178_20
      · rw [if_neg c8] at h
        refine g_aload_n (pc := 10) G dJ7_fill_53178_10 0 rfl ?_
        refine g_iload_n (pc := 11) G dJ7_fill_53178_11 2 rfl ?_
        refine g_iload_n (pc := 12) G dJ7_fill_53178_12 1 rfl ?_
        obtain ⟨b9, h⟩ := gd_e h
        obtain ⟨V10, e11, h⟩ := lt_e h
        refine g_iast (pc := 13) G k_p1 b9 e11 dJ7_fill_53178_13 ?_
        refine g_iinc (v := v4 + 1) (L' := [(2, .int (v4 + 1)), (0, rv b (some p1)), (1, .int p2), (3, .int x1)]) (pc := 14) G dJ7_fill_53178_14 2 rfl rfl (by decide) rfl ?_
        refine g_goto (pc := 17) G 5 dJ7_fill_53178_17 (by decide) ?_
        exact g_sub [1, 2, 0, 3] rfl (ih6 _ _ h)
  exact g_sub [2, 3, 1, 0] rfl (LP7 _ _ _ h)
theorem c_Ja_fillI (l : Launch) (D : va_G) (ca : Nat → ClassId) (b : Nat) {T : Tx} {V : Vx} {p1 : Nat} {p2 : Int32}  {Vf : Vx} (k_p1 : kd T p1 = 11) (h : Ja_fillI T V p1 p2 = some Vf) : MG l yJ7_fill_53178 cJ7_fill_53178 4 (Option.none : Option Jvm.ClassFile.FieldType) 0 0 0 0 D ca b [rv b (some p1), .int p2] T V none T Vf :=
  MG.ofWG (L := [(0, rv b (some p1)), (1, .int p2)]) (by decide +kernel) rfl (Nat.le_of_ble_eq_true rfl) (fun _ _ _ _ _ _ _ G _ => w_Ja_fillI G ⟨Nat.le_refl _, Nat.le_refl _⟩ k_p1 h)
set_option maxHeartbeats 4000000 in
set_option maxRecDepth 100000 in
theorem w_Re_follow {p : Program} {l : Launch} {e : Env} {R : Room} {s : State} {m : MethodId} {args : Array Value} {below : List Frame} {meth : Method} {c : Code} {D : va_G} {ca : Nat → ClassId} {b : Nat} {T : Tx} {V : Vx} (G : GX p s m meth c cX4_follow 10 (Option.none : Option Jvm.ClassFile.FieldType) RX4 "follow" D ca b) (hR : 2 ≤ R.frames ∧ 47 ≤ R.locals) {this : Nat} {p1 : Nat} {p2 : Int32} {p3 : Nat} {p4 : Int32}  {Vf : Vx} (k_this : kd T this = 3) (k_p1 : kd T p1 = 2) (k_p3 : kd T p3 = 4) (h : Re_follow T V this p1 p2 p3 p4 = some Vf) : WG p l e R s m args below meth c D ca b 10 (QG D ca b none T Vf below args s 0 0) 0 0 T V 0 [(0, rv b (some this)), (1, rv b (some p1)), (2, .int p2), (3, rv b (some p3)), (4, .int p4)] [] := by
  unfold Re_follow at h
  refine g_aload_n (pc := 0) G dX4_follow_0 1 rfl ?_
  refine g_iload_n (pc := 1) G dX4_follow_1 2 rfl ?_
  obtain ⟨r2, e1, h⟩ := bd_e h
  refine g_callV (pc := 2) (As := [.int p2]) (rest := []) (st2 := [rv b r2]) G (c_Lx_wordAt l D ca b k_p1 e1) (mb_Lx_wordAt G.2.2.2.2.1) (q388 G.2.2.2.2.1) (q389 G.2.2.2.2.1) (q613 G.2.2.2.2.1) ci_2 k_p1 rfl rfl (Nat.le_of_ble_eq_true rfl) ⟨Nat.le_trans (Nat.le_of_ble_eq_true rfl) hR.1, Nat.le_trans (Nat.le_of_ble_eq_true rfl) hR.2⟩ ⟨Nat.zero_le _, Nat.zero_le _⟩ rfl rfl dX4_follow_2 ?_
  refine g_astore (L' := [(5, rv b r2), (0, rv b (some this)), (1, rv b (some p1)), (2, .int p2), (3, rv b (some p3)), (4, .int p4)]) (pc := 5) G dX4_follow_5 (by decide) rfl ?_
  refine g_iconst (pc := 7) G (v := 0) dX4_follow_7 (by decide) ?_
  refine g_istore (L' := [(6, .int 0), (5, rv b r2), (0, rv b (some this)), (1, rv b (some p1)), (2, .int p2), (3, rv b (some p3)), (4, .int p4)]) (pc := 8) G dX4_follow_8 (by decide) (by cases r2 <;> rfl) ?_
  refine g_iconst (pc := 10) G (v := 1) dX4_follow_10 (by decide) ?_
  refine g_istore (L' := [(7, .int 1), (6, .int 0), (5, rv b r2), (0, rv b (some this)), (1, rv b (some p1)), (2, .int p2), (3, rv b (some p3)), (4, .int p4)]) (pc := 11) G dX4_follow_11 (by decide) rfl ?_
  have LP8 : ∀ (n3 : Nat) (V6 : Vx) (v4 : Int32) (v5 : Int32), Re_follow_L13 T this p1 p2 p3 p4 r2 n3 V6 v4 v5 = some Vf → WG p l e R s m args below meth c D ca b 10 (QG D ca b none T Vf below args s 0 0) 0 0 T V6 13 [(0, rv b (some this)), (1, rv b (some p1)), (2, .int p2), (3, rv b (some p3)), (4, .int p4), (5, rv b r2), (6, .int v4), (7, .int v5)] [] := by
    intro n3
    induction n3 with
    | zero =>
      intro V6 v4 v5 h
      cases h
    | succ n3 ih7 =>
      intro V6 v4 v5 h
      rw [Re_follow_L13.eq_def] at h
      dsimp only at h
      refine g_iload (pc := 13) G dX4_follow_13 7 rfl ?_
      refine g_bipush (pc := 15) G (v := 9) dX4_follow_15 (by decide) ?_
      refine g_icmp_gt (pc := 17) G 134 dX4_follow_17 (by decide) (fun c9 => ?_) (fun c9 => ?_)
      · rw [if_pos c9] at h
        cases h
        exact g_vret (pc := 134) G dX4_follow_134
      · rw [if_neg c9] at h
        refine g_aload (pc := 20) G dX4_follow_20 5 rfl ?_
        cases r2 with
        | none =>
          dsimp only at h
          refine g_ifnullN (pc := 22) G 134 dX4_follow_22 (by decide) ?_
          cases h
          exact g_vret (pc := 134) G dX4_follow_134
        | some r10 =>
          dsimp only at h
          refine g_ifnullS (pc := 22) G dX4_follow_22 ?_
          refine g_aload_n (pc := 25) G dX4_follow_25 1 rfl ?_
          refine g_aload_n (pc := 26) G dX4_follow_26 3 rfl ?_
          refine g_iload (pc := 27) G dX4_follow_27 4 rfl ?_
          refine g_iload (pc := 29) G dX4_follow_29 7 rfl ?_
          refine g_iadd (pc := 31) G dX4_follow_31 ?_
          refine g_iconst (pc := 32) G (v := 1) dX4_follow_32 (by decide) ?_
          refine g_isub (pc := 33) G dX4_follow_33 ?_
          obtain ⟨r12, e11, h⟩ := bd_e h
          refine g_callV (pc := 34) (As := [.int ((p4 + v5) - 1)]) (rest := [rv b (some p1)]) (st2 := [.int r12, rv b (some p1)]) G (c_Ro_at l D ca b k_p3 e11) (mb_Ro_at G.2.2.2.2.1) (q520 G.2.2.2.2.1) (q521 G.2.2.2.2.1) (q614 G.2.2.2.2.1) ci_4 k_p3 rfl rfl (Nat.le_of_ble_eq_true rfl) ⟨Nat.le_trans (Nat.le_of_ble_eq_true rfl) hR.1, Nat.le_trans (Nat.le_of_ble_eq_true rfl) hR.2⟩ ⟨Nat.zero_le _, Nat.zero_le _⟩ rfl rfl dX4_follow_34 ?_
          obtain ⟨r14, e13, h⟩ := bd_e h
          refine g_callV (pc := 37) (As := [.int r12]) (rest := []) (st2 := [rv b r14]) G (c_Lx_signAt l D ca b k_p1 e13) (mb_Lx_signAt G.2.2.2.2.1) (q463 G.2.2.2.2.1) (q464 G.2.2.2.2.1) (q615 G.2.2.2.2.1) ci_2 k_p1 rfl rfl (Nat.le_of_ble_eq_true rfl) ⟨Nat.le_trans (Nat.le_of_ble_eq_true rfl) hR.1, Nat.le_trans (Nat.le_of_ble_eq_true rfl) hR.2⟩ ⟨Nat.zero_le _, Nat.zero_le _⟩ rfl rfl dX4_follow_37 ?_
          refine g_astore (L' := [(8, rv b r14), (0, rv b (some this)), (1, rv b (some p1)), (2, .int p2), (3, rv b (some p3)), (4, .int p4), (5, rv b (some r10)), (6, .int v4), (7, .int v5)]) (pc := 40) G dX4_follow_40 (by decide) rfl ?_
          refine g_aload (pc := 42) G dX4_follow_42 0 rfl ?_
          cases r14 with
          | none =>
            dsimp only at h
            refine g_ifnonnullN (pc := 44) G dX4_follow_44 ?_
            cases h
            exact g_vret (pc := 47) G dX4_follow_47
          | some r15 =>
            dsimp only at h
            refine g_ifnonnullS (pc := 44) G 48 dX4_follow_44 (by decide) ?_
            refine g_iload (pc := 48) G dX4_follow_48 8 rfl ?_
            refine g_iconst (pc := 50) G (v := 1) dX4_follow_50 (by decide) ?_
            obtain ⟨x16, hx18, h⟩ := bd_e h
            have K17 : WG p l e R s m args below meth c D ca b 10 (QG D ca b none T Vf below args s 0 0) 0 0 T V6 73 [(0, rv b (some this)), (1, rv b (some p1)), (2, .int p2), (3, rv b (some p3)), (4, .int p4), (5, rv b (some r10)), (6, .int v4), (7, .int v5), (8, rv b (some r15))] [.int x16] := by
              refine g_istore (L' := [(9, .int x16), (0, rv b (some this)), (1, rv b (some p1)), (2, .int p2), (3, rv b (some p3)), (4, .int p4), (5, rv b (some r10)), (6, .int v4), (7, .int v5), (8, rv b (some r15))]) (pc := 73) G dX4_follow_73 (by decide) rfl ?_
              refine g_iload (pc := 75) G dX4_follow_75 0 rfl ?_
              obtain ⟨x28, hx30, h⟩ := bd_e h
              have K29 : WG p l e R s m args below meth c D ca b 10 (QG D ca b none T Vf below args s 0 0) 0 0 T V6 92 [(0, rv b (some this)), (1, rv b (some p1)), (2, .int p2), (3, rv b (some p3)), (4, .int p4), (5, rv b (some r10)), (6, .int x28), (7, .int v5), (9, .int x16)] [] := by
                refine g_iload (pc := 92) G dX4_follow_92 6 rfl ?_
                refine g_if_ge (pc := 94) G 98 dX4_follow_94 (by decide) (fun c41 => ?_) (fun c41 => ?_)
                · rw [if_pos c41] at h
                  refine g_aload_n (pc := 98) G dX4_follow_98 1 rfl ?_
                  refine g_aload (pc := 99) G dX4_follow_99 5 rfl ?_
                  refine g_iload (pc := 101) G dX4_follow_101 6 rfl ?_
                  obtain ⟨r44, e43, h⟩ := bd_e h
                  have k42 : kd T r10 = 7 := by
                    obtain ⟨ee, k0⟩ := ck_e e43
                    cases ee
                    exact k0
                  obtain ⟨r46, e45, h⟩ := bd_e h
                  refine g_callV (pc := 103) (As := [rv b (some r10), .int x28]) (rest := []) (st2 := [.int r46]) G (c_Lx_mayEndAt l D ca b k_p1 k42 e45) (mb_Lx_mayEndAt G.2.2.2.2.1) (q566 G.2.2.2.2.1) (q567 G.2.2.2.2.1) (q621 G.2.2.2.2.1) ci_2 k_p1 rfl rfl (Nat.le_of_ble_eq_true rfl) ⟨Nat.le_trans (Nat.le_of_ble_eq_true rfl) hR.1, Nat.le_trans (Nat.le_of_ble_eq_true rfl) hR.2⟩ ⟨Nat.zero_le _, Nat.zero_le _⟩ rfl rfl dX4_follow_103 ?_
                  refine g_if_eq (pc := 106) G 122 dX4_follow_106 (by decide) (fun c47 => ?_) (fun c47 => ?_)
                  · rw [if_pos c47] at h
                    refine g_iload (pc := 122) G dX4_follow_122 8 rfl ?_
                    refine g_if_eq (pc := 124) G 128 dX4_follow_124 (by decide) (fun c48 => ?_) (fun c48 => ?_)
                    · rw [if_pos c48] at h
                      refine g_iinc (v := v5 + 1) (L' := [(7, .int (v5 + 1)), (0, rv b (some this)), (1, rv b (some p1)), (2, .int p2), (3, rv b (some p3)), (4, .int p4), (5, rv b (some r10)), (6, .int x28), (9, .int x16)]) (pc := 128) G dX4_follow_128 7 rfl rfl (by decide) rfl ?_
                      refine g_goto (pc := 131) G 13 dX4_follow_131 (by decide) ?_
                      exact g_sub [1, 2, 3, 4, 5, 6, 7, 0] rfl (ih7 _ _ _ h)
                    · rw [if_neg c48] at h
                      cases h
                      exact g_vret (pc := 127) G dX4_follow_127
                  · rw [if_neg c47] at h
                    refine g_aload_n (pc := 109) G dX4_follow_109 0 rfl ?_
                    obtain ⟨r49, e50, h⟩ := bd_e h
                    obtain ⟨f51, k52⟩ := ck_e e50
                    refine g_getR (pc := 110) G ci_3 (uw_3 G.2.2.2.2.1) (k := 0) (by decide) rfl rfl k_this (q162 G.2.2.2.2.1) dX4_follow_110 f51 ?_
                    refine g_iload (pc := 113) G dX4_follow_113 7 rfl ?_
                    refine g_dup2 (pc := 115) G dX4_follow_115 rfl rfl ?_
                    obtain ⟨b53, h⟩ := gd_e h
                    refine g_iald (pc := 116) G k52 b53 dX4_follow_116 ?_
                    refine g_iconst (pc := 117) G (v := 1) dX4_follow_117 (by decide) ?_
                    refine g_iload_n (pc := 118) G dX4_follow_118 2 rfl ?_
                    refine g_ishl (pc := 119) G dX4_follow_119 ?_
                    refine g_ior (pc := 120) G dX4_follow_120 ?_
                    obtain ⟨b54, h⟩ := gd_e h
                    obtain ⟨V55, e56, h⟩ := lt_e h
                    refine g_iast (pc := 121) G k52 b54 e56 dX4_follow_121 ?_
                    refine g_iload (pc := 122) G dX4_follow_122 8 rfl ?_
                    refine g_if_eq (pc := 124) G 128 dX4_follow_124 (by decide) (fun c57 => ?_) (fun c57 => ?_)
                    · rw [if_pos c57] at h
                      refine g_iinc (v := v5 + 1) (L' := [(7, .int (v5 + 1)), (0, rv b (some this)), (1, rv b (some p1)), (2, .int p2), (3, rv b (some p3)), (4, .int p4), (5, rv b (some r10)), (6, .int x28), (9, .int x16)]) (pc := 128) G dX4_follow_128 7 rfl rfl (by decide) rfl ?_
                      refine g_goto (pc := 131) G 13 dX4_follow_131 (by decide) ?_
                      exact g_sub [1, 2, 3, 4, 5, 6, 7, 0] rfl (ih7 _ _ _ h)
                    · rw [if_neg c57] at h
                      cases h
                      exact g_vret (pc := 127) G dX4_follow_127
                · rw [if_neg c41] at h
                  cases h
                  exact g_vret (pc := 97) G dX4_follow_97
              refine g_if_ne (pc := 77) G 92 dX4_follow_77 (by decide) (fun c32 => ?_) (fun c32 => ?_)
              · rw [if_neg c32] at hx30
                cases hx30
                exact g_sub [1, 2, 3, 4, 5, 6, 7, 8, 0] rfl K29
              · rw [if_pos c32] at hx30
                refine g_aload_n (pc := 80) G dX4_follow_80 2 rfl ?_
                refine g_aload (pc := 81) G dX4_follow_81 6 rfl ?_
                refine g_iload (pc := 83) G dX4_follow_83 7 rfl ?_
                refine g_aload (pc := 85) G dX4_follow_85 9 rfl ?_
                obtain ⟨r35, e34, hx30⟩ := bd_e hx30
                have k33 : kd T r10 = 7 := by
                  obtain ⟨ee, k0⟩ := ck_e e34
                  cases ee
                  exact k0
                obtain ⟨r38, e37, hx30⟩ := bd_e hx30
                have k36 : kd T r15 = 6 := by
                  obtain ⟨ee, k0⟩ := ck_e e37
                  cases ee
                  exact k0
                obtain ⟨r40, e39, hx30⟩ := bd_e hx30
                refine g_callV (pc := 87) (As := [rv b (some r10), .int v4, rv b (some r15)]) (rest := []) (st2 := [.int r40]) G (c_Lx_placeBehind l D ca b k_p1 k33 k36 e39) (mb_Lx_placeBehind G.2.2.2.2.1) (q575 G.2.2.2.2.1) (q576 G.2.2.2.2.1) (q620 G.2.2.2.2.1) ci_2 k_p1 rfl rfl (Nat.le_of_ble_eq_true rfl) ⟨Nat.le_trans (Nat.le_of_ble_eq_true rfl) hR.1, Nat.le_trans (Nat.le_of_ble_eq_true rfl) hR.2⟩ ⟨Nat.zero_le _, Nat.zero_le _⟩ rfl rfl dX4_follow_87 ?_
                refine g_istore (L' := [(6, .int r40), (9, .int x16), (0, rv b (some this)), (1, rv b (some p1)), (2, .int p2), (3, rv b (some p3)), (4, .int p4), (5, rv b (some r10)), (7, .int v5), (8, rv b (some r15))]) (pc := 90) G dX4_follow_90 (by decide) rfl ?_
                cases hx30
                exact g_sub [2, 3, 4, 5, 6, 7, 0, 8, 1] rfl K29
            refine g_icmp_le (pc := 51) G 72 dX4_follow_51 (by decide) (fun c20 => ?_) (fun c20 => ?_)
            · rw [if_pos c20] at hx18
              refine g_iconst (pc := 72) G (v := 0) dX4_follow_72 (by decide) ?_
              cases hx18
              exact g_sub [1, 2, 3, 4, 5, 6, 7, 8, 0] rfl K17
            · rw [if_neg c20] at hx18
              refine g_aload_n (pc := 54) G dX4_follow_54 2 rfl ?_
              refine g_aload (pc := 55) G dX4_follow_55 0 rfl ?_
              refine g_aload (pc := 57) G dX4_follow_57 6 rfl ?_
              obtain ⟨r23, e22, hx18⟩ := bd_e hx18
              have k21 : kd T r10 = 7 := by
                obtain ⟨ee, k0⟩ := ck_e e22
                cases ee
                exact k0
              refine g_getIN (pc := 59) G ci_7 (uw_7 G.2.2.2.2.1) (k := 1) (by decide) rfl rfl k21 (q291 G.2.2.2.2.1) dX4_follow_59 ?_
              obtain ⟨z24, hx18⟩ := gd_e hx18
              obtain ⟨r26, e25, hx18⟩ := bd_e hx18
              refine g_callV (pc := 62) (As := [rv b (some r15), .int (fI V6 701 r10)]) (rest := []) (st2 := [.int r26]) G (c_Lx_marks l D ca b k_p1 (cko_e z24) e25) (mb_Lx_marks G.2.2.2.2.1) (q617 G.2.2.2.2.1) (q618 G.2.2.2.2.1) (q616 G.2.2.2.2.1) ci_2 k_p1 rfl rfl (Nat.le_of_ble_eq_true rfl) ⟨Nat.le_trans (Nat.le_of_ble_eq_true rfl) hR.1, Nat.le_trans (Nat.le_of_ble_eq_true rfl) hR.2⟩ ⟨Nat.zero_le _, Nat.zero_le _⟩ rfl rfl dX4_follow_62 ?_
              refine g_if_eq (pc := 65) G 72 dX4_follow_65 (by decide) (fun c27 => ?_) (fun c27 => ?_)
              · rw [if_pos c27] at hx18
                refine g_iconst (pc := 72) G (v := 0) dX4_follow_72 (by decide) ?_
                cases hx18
                exact g_sub [1, 2, 3, 4, 5, 6, 7, 8, 0] rfl K17
              · rw [if_neg c27] at hx18
                refine g_iconst (pc := 68) G (v := 1) dX4_follow_68 (by decide) ?_
                refine g_goto (pc := 69) G 73 dX4_follow_69 (by decide) ?_
                cases hx18
                exact g_sub [1, 2, 3, 4, 5, 6, 7, 8, 0] rfl K17
  exact g_sub [3, 4, 5, 6, 7, 2, 1, 0] rfl (LP8 _ _ _ _ h)
theorem c_Re_follow (l : Launch) (D : va_G) (ca : Nat → ClassId) (b : Nat) {T : Tx} {V : Vx} {this : Nat} {p1 : Nat} {p2 : Int32} {p3 : Nat} {p4 : Int32}  {Vf : Vx} (k_this : kd T this = 3) (k_p1 : kd T p1 = 2) (k_p3 : kd T p3 = 4) (h : Re_follow T V this p1 p2 p3 p4 = some Vf) : MG l yX4_follow cX4_follow 10 (Option.none : Option Jvm.ClassFile.FieldType) 2 47 0 0 D ca b [rv b (some this), rv b (some p1), .int p2, rv b (some p3), .int p4] T V none T Vf :=
  MG.ofWG (L := [(0, rv b (some this)), (1, rv b (some p1)), (2, .int p2), (3, rv b (some p3)), (4, .int p4)]) (by decide +kernel) rfl (Nat.le_of_ble_eq_true rfl) (fun _ _ _ _ _ _ _ G _ => w_Re_follow G ⟨Nat.le_refl _, Nat.le_refl _⟩ k_this k_p1 k_p3 h)
set_option maxHeartbeats 4000000 in
set_option maxRecDepth 100000 in
theorem w_Re_look {p : Program} {l : Launch} {e : Env} {R : Room} {s : State} {m : MethodId} {args : Array Value} {below : List Frame} {meth : Method} {c : Code} {D : va_G} {ca : Nat → ClassId} {b : Nat} {T : Tx} {V : Vx} (G : GX p s m meth c cX4_look 6 (Option.none : Option Jvm.ClassFile.FieldType) RX4 "look" D ca b) (hR : 3 ≤ R.frames ∧ 76 ≤ R.locals) {this : Nat} {p1 : Nat} {p2 : Nat} {p3 : Int32}  {Vf : Vx} (k_this : kd T this = 3) (k_p1 : kd T p1 = 2) (k_p2 : kd T p2 = 4) (h : Re_look T V this p1 p2 p3 = some Vf) : WG p l e R s m args below meth c D ca b 6 (QG D ca b none T Vf below args s 0 0) 0 0 T V 0 [(0, rv b (some this)), (1, rv b (some p1)), (2, rv b (some p2)), (3, .int p3)] [] := by
  unfold Re_look at h
  refine g_aload_n (pc := 0) G dX4_look_0 0 rfl ?_
  obtain ⟨r1, e2, h⟩ := bd_e h
  obtain ⟨f3, k4⟩ := ck_e e2
  refine g_getR (pc := 1) G ci_3 (uw_3 G.2.2.2.2.1) (k := 0) (by decide) rfl rfl k_this (q162 G.2.2.2.2.1) dX4_look_1 f3 ?_
  refine g_iconst (pc := 4) G (v := 0) dX4_look_4 (by decide) ?_
  obtain ⟨V6, e5, h⟩ := bd_e h
  refine g_callS (pc := 5) (As := [rv b (some r1), .int 0]) (rest := []) (st2 := []) G (c_Ja_fillI l D ca b k4 e5) (mb_Ja_fillI G.2.2.2.2.1) (q607 G.2.2.2.2.1) (q606 G.2.2.2.2.1) rfl rfl (Nat.le_of_ble_eq_true rfl) ⟨Nat.le_trans (Nat.le_of_ble_eq_true rfl) hR.1, Nat.le_trans (Nat.le_of_ble_eq_true rfl) hR.2⟩ ⟨Nat.zero_le _, Nat.zero_le _⟩ rfl rfl dX4_look_5 ?_
  refine g_iconst (pc := 8) G (v := 0) dX4_look_8 (by decide) ?_
  refine g_istore (L' := [(4, .int 0), (0, rv b (some this)), (1, rv b (some p1)), (2, rv b (some p2)), (3, .int p3)]) (pc := 9) G dX4_look_9 (by decide) rfl ?_
  have LP11 : ∀ (n7 : Nat) (V9 : Vx) (v8 : Int32) (V12 : Vx), Re_look_L11 T this p1 p2 p3 n7 V9 v8 = some (V12) → WG p l e R s m args below meth c D ca b 6 (QG D ca b none T Vf below args s 0 0) 0 0 T V12 35 [(0, rv b (some this)), (1, rv b (some p1)), (2, rv b (some p2)), (3, .int p3)] [] → WG p l e R s m args below meth c D ca b 6 (QG D ca b none T Vf below args s 0 0) 0 0 T V9 11 [(0, rv b (some this)), (1, rv b (some p1)), (2, rv b (some p2)), (3, .int p3), (4, .int v8)] [] := by
    intro n7
    induction n7 with
    | zero =>
      intro V9 v8 V12 h
      cases h
    | succ n7 ih10 =>
      intro V9 v8 V12 h K13
      rw [Re_look_L11] at h
      refine g_iload (pc := 11) G dX4_look_11 4 rfl ?_
      refine g_aload_n (pc := 13) G dX4_look_13 1 rfl ?_
      refine g_getIN (pc := 14) G ci_2 (uw_2 G.2.2.2.2.1) (k := 3) (by decide) rfl rfl k_p1 (q307 G.2.2.2.2.1) dX4_look_14 ?_
      refine g_icmp_ge (pc := 17) G 35 dX4_look_17 (by decide) (fun c14 => ?_) (fun c14 => ?_)
      · rw [if_pos c14] at h
        cases h
        exact g_sub [0, 1, 2, 3] rfl K13
      · rw [if_neg c14] at h
        refine g_aload_n (pc := 20) G dX4_look_20 0 rfl ?_
        refine g_aload_n (pc := 21) G dX4_look_21 1 rfl ?_
        refine g_iload (pc := 22) G dX4_look_22 4 rfl ?_
        refine g_aload_n (pc := 24) G dX4_look_24 2 rfl ?_
        refine g_iload_n (pc := 25) G dX4_look_25 3 rfl ?_
        obtain ⟨V16, e15, h⟩ := bd_e h
        refine g_callV (pc := 26) (As := [rv b (some p1), .int v8, rv b (some p2), .int p3]) (rest := []) (st2 := []) G (c_Re_follow l D ca b k_this k_p1 k_p2 e15) (mb_Re_follow G.2.2.2.2.1) (q611 G.2.2.2.2.1) (q8 G.2.2.2.2.1) (q609 G.2.2.2.2.1) ci_3 k_this rfl rfl (Nat.le_of_ble_eq_true rfl) ⟨Nat.le_trans (Nat.le_of_ble_eq_true rfl) hR.1, Nat.le_trans (Nat.le_of_ble_eq_true rfl) hR.2⟩ ⟨Nat.zero_le _, Nat.zero_le _⟩ rfl rfl dX4_look_26 ?_
        refine g_iinc (v := v8 + 1) (L' := [(4, .int (v8 + 1)), (0, rv b (some this)), (1, rv b (some p1)), (2, rv b (some p2)), (3, .int p3)]) (pc := 29) G dX4_look_29 4 rfl rfl (by decide) rfl ?_
        refine g_goto (pc := 32) G 11 dX4_look_32 (by decide) ?_
        exact g_sub [1, 2, 3, 4, 0] rfl (ih10 _ _ _ h K13)
  obtain ⟨V12, e17, h⟩ := bd_e h
  refine g_sub [1, 2, 3, 4, 0] rfl (LP11 _ _ _ _ e17 ?_)
  refine g_aload_n (pc := 35) G dX4_look_35 1 rfl ?_
  refine g_aload_n (pc := 36) G dX4_look_36 2 rfl ?_
  refine g_iload_n (pc := 37) G dX4_look_37 3 rfl ?_
  obtain ⟨r19, e18, h⟩ := bd_e h
  refine g_callV (pc := 38) (As := [.int p3]) (rest := [rv b (some p1)]) (st2 := [.int r19, rv b (some p1)]) G (c_Ro_at l D ca b k_p2 e18) (mb_Ro_at G.2.2.2.2.1) (q520 G.2.2.2.2.1) (q521 G.2.2.2.2.1) (q614 G.2.2.2.2.1) ci_4 k_p2 rfl rfl (Nat.le_of_ble_eq_true rfl) ⟨Nat.le_trans (Nat.le_of_ble_eq_true rfl) hR.1, Nat.le_trans (Nat.le_of_ble_eq_true rfl) hR.2⟩ ⟨Nat.zero_le _, Nat.zero_le _⟩ rfl rfl dX4_look_38 ?_
  obtain ⟨r21, e20, h⟩ := bd_e h
  refine g_callV (pc := 41) (As := [.int r19]) (rest := []) (st2 := [rv b r21]) G (c_Lx_signAt l D ca b k_p1 e20) (mb_Lx_signAt G.2.2.2.2.1) (q463 G.2.2.2.2.1) (q464 G.2.2.2.2.1) (q615 G.2.2.2.2.1) ci_2 k_p1 rfl rfl (Nat.le_of_ble_eq_true rfl) ⟨Nat.le_trans (Nat.le_of_ble_eq_true rfl) hR.1, Nat.le_trans (Nat.le_of_ble_eq_true rfl) hR.2⟩ ⟨Nat.zero_le _, Nat.zero_le _⟩ rfl rfl dX4_look_41 ?_
  refine g_astore (L' := [(4, rv b r21), (0, rv b (some this)), (1, rv b (some p1)), (2, rv b (some p2)), (3, .int p3)]) (pc := 44) G dX4_look_44 (by decide) rfl ?_
  refine g_aload (pc := 46) G dX4_look_46 0 rfl ?_
  cases r21 with
  | none =>
    dsimp only at h
    refine g_ifnullN (pc := 48) G 98 dX4_look_48 (by decide) ?_
    cases h
    exact g_vret (pc := 98) G dX4_look_98
  | some r22 =>
    dsimp only at h
    refine g_ifnullS (pc := 48) G dX4_look_48 ?_
    refine g_aload (pc := 51) G dX4_look_51 0 rfl ?_
    obtain ⟨r25, e24, h⟩ := bd_e h
    have k23 : kd T r22 = 6 := by
      obtain ⟨ee, k0⟩ := ck_e e24
      cases ee
      exact k0
    refine g_getIN (pc := 53) G ci_6 (uw_6 G.2.2.2.2.1) (k := 1) (by decide) rfl rfl k23 (q257 G.2.2.2.2.1) dX4_look_53 ?_
    refine g_if_ne (pc := 56) G 98 dX4_look_56 (by decide) (fun c26 => ?_) (fun c26 => ?_)
    · rw [if_neg c26] at h
      cases h
      exact g_vret (pc := 98) G dX4_look_98
    · rw [if_pos c26] at h
      refine g_aload (pc := 59) G dX4_look_59 0 rfl ?_
      refine g_getIN (pc := 61) G ci_6 (uw_6 G.2.2.2.2.1) (k := 3) (by decide) rfl rfl k23 (q265 G.2.2.2.2.1) dX4_look_61 ?_
      refine g_if_ne (pc := 64) G 98 dX4_look_64 (by decide) (fun c27 => ?_) (fun c27 => ?_)
      · rw [if_neg c27] at h
        cases h
        exact g_vret (pc := 98) G dX4_look_98
      · rw [if_pos c27] at h
        refine g_aload_n (pc := 67) G dX4_look_67 2 rfl ?_
        refine g_aload (pc := 68) G dX4_look_68 0 rfl ?_
        refine g_getIN (pc := 70) G ci_6 (uw_6 G.2.2.2.2.1) (k := 2) (by decide) rfl rfl k23 (q261 G.2.2.2.2.1) dX4_look_70 ?_
        refine g_aload (pc := 73) G dX4_look_73 0 rfl ?_
        obtain ⟨r28, e29, h⟩ := bd_e h
        obtain ⟨f30, k31⟩ := ck_e e29
        refine g_getRN (pc := 75) G ci_6 (uw_6 G.2.2.2.2.1) (k := 0) (by decide) rfl rfl k23 (q252 G.2.2.2.2.1) dX4_look_75 f30 ?_
        obtain ⟨r33, e32, h⟩ := bd_e h
        refine g_callV (pc := 78) (As := [.int (fI V12 602 r22), rv b (some r28)]) (rest := []) (st2 := [.int r33]) G (c_Lx_wordOf l D ca b k_p1 k31 e32) (mb_Lx_wordOf G.2.2.2.2.1) (q384 G.2.2.2.2.1) (q385 G.2.2.2.2.1) (q622 G.2.2.2.2.1) ci_2 k_p1 rfl rfl (Nat.le_of_ble_eq_true rfl) ⟨Nat.le_trans (Nat.le_of_ble_eq_true rfl) hR.1, Nat.le_trans (Nat.le_of_ble_eq_true rfl) hR.2⟩ ⟨Nat.zero_le _, Nat.zero_le _⟩ rfl rfl dX4_look_78 ?_
        refine g_istore (L' := [(5, .int r33), (4, rv b (some r22)), (0, rv b (some this)), (1, rv b (some p1)), (2, rv b (some p2)), (3, .int p3)]) (pc := 81) G dX4_look_81 (by decide) rfl ?_
        refine g_iload (pc := 83) G dX4_look_83 0 rfl ?_
        refine g_if_lt (pc := 85) G 98 dX4_look_85 (by decide) (fun c34 => ?_) (fun c34 => ?_)
        · rw [if_pos c34] at h
          cases h
          exact g_vret (pc := 98) G dX4_look_98
        · rw [if_neg c34] at h
          refine g_aload_n (pc := 88) G dX4_look_88 2 rfl ?_
          obtain ⟨r35, e36, h⟩ := bd_e h
          obtain ⟨f37, k38⟩ := ck_e e36
          refine g_getR (pc := 89) G ci_3 (uw_3 G.2.2.2.2.1) (k := 0) (by decide) rfl rfl k_this (q162 G.2.2.2.2.1) dX4_look_89 f37 ?_
          refine g_iconst (pc := 92) G (v := 1) dX4_look_92 (by decide) ?_
          refine g_iconst (pc := 93) G (v := 1) dX4_look_93 (by decide) ?_
          refine g_iload (pc := 94) G dX4_look_94 0 rfl ?_
          refine g_ishl (pc := 96) G dX4_look_96 ?_
          obtain ⟨b39, h⟩ := gd_e h
          obtain ⟨V40, e41, h⟩ := lt_e h
          refine g_iast (pc := 97) G k38 b39 e41 dX4_look_97 ?_
          cases h
          exact g_vret (pc := 98) G dX4_look_98
theorem c_Re_look (l : Launch) (D : va_G) (ca : Nat → ClassId) (b : Nat) {T : Tx} {V : Vx} {this : Nat} {p1 : Nat} {p2 : Nat} {p3 : Int32}  {Vf : Vx} (k_this : kd T this = 3) (k_p1 : kd T p1 = 2) (k_p2 : kd T p2 = 4) (h : Re_look T V this p1 p2 p3 = some Vf) : MG l yX4_look cX4_look 6 (Option.none : Option Jvm.ClassFile.FieldType) 3 76 0 0 D ca b [rv b (some this), rv b (some p1), rv b (some p2), .int p3] T V none T Vf :=
  MG.ofWG (L := [(0, rv b (some this)), (1, rv b (some p1)), (2, rv b (some p2)), (3, .int p3)]) (by decide +kernel) rfl (Nat.le_of_ble_eq_true rfl) (fun _ _ _ _ _ _ _ G _ => w_Re_look G ⟨Nat.le_refl _, Nat.le_refl _⟩ k_this k_p1 k_p2 h)
set_option maxHeartbeats 4000000 in
set_option maxRecDepth 100000 in
theorem w_Re_wordsBy {p : Program} {l : Launch} {e : Env} {R : Room} {s : State} {m : MethodId} {args : Array Value} {below : List Frame} {meth : Method} {c : Code} {D : va_G} {ca : Nat → ClassId} {b : Nat} {T : Tx} {V : Vx} (G : GX p s m meth c cX4_wordsBy 2 (Option.some Jvm.ClassFile.FieldType.int) RX4 "wordsBy" D ca b) (hR : 0 ≤ R.frames ∧ 0 ≤ R.locals) {this : Nat} {p1 : Int32} {rr : Int32}  (k_this : kd T this = 3) (h : Re_wordsBy T V this p1 = some rr) : WG p l e R s m args below meth c D ca b 2 (QG D ca b (some (.int rr)) T V below args s 0 0) 0 0 T V 0 [(0, rv b (some this)), (1, .int p1)] [] := by
  unfold Re_wordsBy at h
  refine g_iload_n (pc := 0) G dX4_wordsBy_0 1 rfl ?_
  refine g_if_lt (pc := 1) G 19 dX4_wordsBy_1 (by decide) (fun c1 => ?_) (fun c1 => ?_)
  · rw [if_pos c1] at h
    refine g_iconst (pc := 19) G (v := 0) dX4_wordsBy_19 (by decide) ?_
    cases h
    exact g_iret (pc := 20) G dX4_wordsBy_20
  · rw [if_neg c1] at h
    refine g_iload_n (pc := 4) G dX4_wordsBy_4 1 rfl ?_
    refine g_bipush (pc := 5) G (v := 9) dX4_wordsBy_5 (by decide) ?_
    refine g_icmp_gt (pc := 7) G 19 dX4_wordsBy_7 (by decide) (fun c2 => ?_) (fun c2 => ?_)
    · rw [if_pos c2] at h
      refine g_iconst (pc := 19) G (v := 0) dX4_wordsBy_19 (by decide) ?_
      cases h
      exact g_iret (pc := 20) G dX4_wordsBy_20
    · rw [if_neg c2] at h
      refine g_aload_n (pc := 10) G dX4_wordsBy_10 0 rfl ?_
      obtain ⟨r3, e4, h⟩ := bd_e h
      obtain ⟨f5, k6⟩ := ck_e e4
      refine g_getR (pc := 11) G ci_3 (uw_3 G.2.2.2.2.1) (k := 0) (by decide) rfl rfl k_this (q162 G.2.2.2.2.1) dX4_wordsBy_11 f5 ?_
      refine g_iload_n (pc := 14) G dX4_wordsBy_14 1 rfl ?_
      obtain ⟨b7, h⟩ := gd_e h
      refine g_iald (pc := 15) G k6 b7 dX4_wordsBy_15 ?_
      refine g_goto (pc := 16) G 20 dX4_wordsBy_16 (by decide) ?_
      cases h
      exact g_iret (pc := 20) G dX4_wordsBy_20
theorem c_Re_wordsBy (l : Launch) (D : va_G) (ca : Nat → ClassId) (b : Nat) {T : Tx} {V : Vx} {this : Nat} {p1 : Int32} {rr : Int32}  (k_this : kd T this = 3) (h : Re_wordsBy T V this p1 = some rr) : MG l yX4_wordsBy cX4_wordsBy 2 (Option.some Jvm.ClassFile.FieldType.int) 0 0 0 0 D ca b [rv b (some this), .int p1] T V (some (.int rr)) T V :=
  MG.ofWG (L := [(0, rv b (some this)), (1, .int p1)]) (by decide +kernel) rfl (Nat.le_of_ble_eq_true rfl) (fun _ _ _ _ _ _ _ G _ => w_Re_wordsBy G ⟨Nat.le_refl _, Nat.le_refl _⟩ k_this h)
set_option maxHeartbeats 4000000 in
set_option maxRecDepth 100000 in
theorem w_Ja_fillL {p : Program} {l : Launch} {e : Env} {R : Room} {s : State} {m : MethodId} {args : Array Value} {below : List Frame} {meth : Method} {c : Code} {D : va_G} {ca : Nat → ClassId} {b : Nat} {T : Tx} {V : Vx} (G : GX p s m meth c cJ7_fill_d0a16 5 (Option.none : Option Jvm.ClassFile.FieldType) RJ7 "fill" D ca b) (hR : 0 ≤ R.frames ∧ 0 ≤ R.locals) {p1 : Nat} {p2 : Int64}  {Vf : Vx} (k_p1 : kd T p1 = 12) (h : Ja_fillL T V p1 p2 = some Vf) : WG p l e R s m args below meth c D ca b 5 (QG D ca b none T Vf below args s 0 0) 0 0 T V 0 [(0, rv b (some p1)), (1, .long p2)] [] := by
  unfold Ja_fillL at h
  refine g_iconst (pc := 0) G (v := 0) dJ7_fill_d0a16_0 (by decide) ?_
  refine g_istore_n (L' := [(3, .int 0), (0, rv b (some p1)), (1, .long p2)]) (pc := 1) G dJ7_fill_d0a16_1 (by decide) rfl ?_
  refine g_aload_n (pc := 2) G dJ7_fill_d0a16_2 1 rfl ?_
  refine g_alen (pc := 3) G (t0 := 2) k_p1 (by decide) rfl dJ7_fill_d0a16_3 ?_
  obtain ⟨x1, e2, h⟩ := lt_e h
  rw [e2]
  refine g_istore (L' := [(4, .int x1), (3, .int 0), (0, rv b (some p1)), (1, .long p2)]) (pc := 4) G dJ7_fill_d0a16_4 (by decide) rfl ?_
  have LP7 : ∀ (n3 : Nat) (V5 : Vx) (v4 : Int32), Ja_fillL_L6 T p1 p2 x1 n3 V5 v4 = some Vf → WG p l e R s m args below meth c D ca b 5 (QG D ca b none T Vf below args s 0 0) 0 0 T V5 6 [(0, rv b (some p1)), (1, .long p2), (3, .int v4), (4, .int x1)] [] := by
    intro n3
    induction n3 with
    | zero =>
      intro V5 v4 h
      cases h
    | succ n3 ih6 =>
      intro V5 v4 h
      rw [Ja_fillL_L6] at h
      refine g_iload_n (pc := 6) G dJ7_fill_d0a16_6 2 rfl ?_
      refine g_iload (pc := 7) G dJ7_fill_d0a16_7 3 rfl ?_
      refine g_icmp_ge (pc := 9) G 22 dJ7_fill_d0a16_9 (by decide) (fun c8 => ?_) (fun c8 => ?_)
      · rw [if_pos c8] at h
        cases h
        exact g_vret (pc := 22) G dJ7_fill_d0a16_22
      · rw [if_neg c8] at h
        refine g_aload_n (pc := 12) G dJ7_fill_d0a16_12 0 rfl ?_
        refine g_iload_n (pc := 13) G dJ7_fill_d0a16_13 2 rfl ?_
        refine g_lload_n (pc := 14) G dJ7_fill_d0a16_14 1 rfl ?_
        obtain ⟨b9, h⟩ := gd_e h
        obtain ⟨V10, e11, h⟩ := lt_e h
        refine g_last (pc := 15) G k_p1 b9 e11 dJ7_fill_d0a16_15 ?_
        refine g_iinc (v := v4 + 1) (L' := [(3, .int (v4 + 1)), (0, rv b (some p1)), (1, .long p2), (4, .int x1)]) (pc := 16) G dJ7_fill_d0a16_16 2 rfl rfl (by decide) rfl ?_
        refine g_goto (pc := 19) G 6 dJ7_fill_d0a16_19 (by decide) ?_
        exact g_sub [1, 2, 0, 3] rfl (ih6 _ _ h)
  exact g_sub [2, 3, 1, 0] rfl (LP7 _ _ _ h)
theorem c_Ja_fillL (l : Launch) (D : va_G) (ca : Nat → ClassId) (b : Nat) {T : Tx} {V : Vx} {p1 : Nat} {p2 : Int64}  {Vf : Vx} (k_p1 : kd T p1 = 12) (h : Ja_fillL T V p1 p2 = some Vf) : MG l yJ7_fill_d0a16 cJ7_fill_d0a16 5 (Option.none : Option Jvm.ClassFile.FieldType) 0 0 0 0 D ca b [rv b (some p1), .long p2] T V none T Vf :=
  MG.ofWG (L := [(0, rv b (some p1)), (1, .long p2)]) (by decide +kernel) rfl (Nat.le_of_ble_eq_true rfl) (fun _ _ _ _ _ _ _ G _ => w_Ja_fillL G ⟨Nat.le_refl _, Nat.le_refl _⟩ k_p1 h)
