set_option maxHeartbeats 4000000 in
set_option maxRecDepth 100000 in
theorem w_Sc_settle {p : Program} {l : Launch} {e : Env} {R : Room} {s : State} {m : MethodId} {args : Array Value} {below : List Frame} {meth : Method} {c : Code} {D : va_G} {ca : Nat → ClassId} {b : Nat} {T : Tx} {V : Vx} (G : GX p s m meth c cX6_settle 4 (Option.none : Option Jvm.ClassFile.FieldType) RX6 "settle" D ca b) (hR : 4 ≤ R.frames ∧ 102 ≤ R.locals) {this : Nat} {p1 : Nat}  {Vf : Vx} (k_this : kd T this = 5) (k_p1 : kd T p1 = 2) (h : Sc_settle T V this p1 = some Vf) : WG p l e R s m args below meth c D ca b 4 (QG D ca b none T Vf below args s 0 0) 0 0 T V 0 [(0, rv b (some this)), (1, rv b (some p1))] [] := by
  unfold Sc_settle at h
  refine g_aload_n (pc := 0) G dX6_settle_0 0 rfl ?_
  refine g_getI (pc := 1) G ci_5 (uw_5 G.2.2.2.2.1) (k := 5) (by decide) rfl rfl k_this (q141 G.2.2.2.2.1) dX6_settle_1 ?_
  refine g_if_eq (pc := 4) G 8 dX6_settle_4 (by decide) (fun c1 => ?_) (fun c1 => ?_)
  · rw [if_pos c1] at h
    refine g_iconst (pc := 8) G (v := 0) dX6_settle_8 (by decide) ?_
    refine g_istore_n (L' := [(2, .int 0), (0, rv b (some this)), (1, rv b (some p1))]) (pc := 9) G dX6_settle_9 (by decide) rfl ?_
    have LP6 : ∀ (n2 : Nat) (V4 : Vx) (v3 : Int32), Sc_settle_L10 T this p1 n2 V4 v3 = some Vf → WG p l e R s m args below meth c D ca b 4 (QG D ca b none T Vf below args s 0 0) 0 0 T V4 10 [(0, rv b (some this)), (1, rv b (some p1)), (2, .int v3)] [] := by
      intro n2
      induction n2 with
      | zero =>
        intro V4 v3 h
        cases h
      | succ n2 ih5 =>
        intro V4 v3 h
        rw [Sc_settle_L10.eq_def] at h
        dsimp only at h
        refine g_iload_n (pc := 10) G dX6_settle_10 2 rfl ?_
        refine g_bipush (pc := 11) G (v := 8) dX6_settle_11 (by decide) ?_
        refine g_icmp_ge (pc := 13) G 44 dX6_settle_13 (by decide) (fun c7 => ?_) (fun c7 => ?_)
        · rw [if_pos c7] at h
          refine g_aload_n (pc := 44) G dX6_settle_44 0 rfl ?_
          refine g_iconst (pc := 45) G (v := 1) dX6_settle_45 (by decide) ?_
          obtain ⟨V8, e9, h⟩ := lt_e h
          refine g_putI (pc := 46) G ci_5 (uw_5 G.2.2.2.2.1) (k := 5) (by decide) rfl rfl k_this rfl (zo_n rfl) (q141 G.2.2.2.2.1) e9 dX6_settle_46 ?_
          cases h
          exact g_vret (pc := 49) G dX6_settle_49
        · rw [if_neg c7] at h
          refine g_aload_n (pc := 16) G dX6_settle_16 1 rfl ?_
          refine g_iload_n (pc := 17) G dX6_settle_17 2 rfl ?_
          obtain ⟨r11, e10, h⟩ := bd_e h
          refine g_callV (pc := 18) (As := [.int v3]) (rest := []) (st2 := [rv b r11]) G (c_Lx_wordAt l D ca b k_p1 e10) (mb_Lx_wordAt G.2.2.2.2.1) (q388 G.2.2.2.2.1) (q389 G.2.2.2.2.1) (q555 G.2.2.2.2.1) ci_2 k_p1 rfl rfl (Nat.le_of_ble_eq_true rfl) ⟨Nat.le_trans (Nat.le_of_ble_eq_true rfl) hR.1, Nat.le_trans (Nat.le_of_ble_eq_true rfl) hR.2⟩ ⟨Nat.zero_le _, Nat.zero_le _⟩ rfl rfl dX6_settle_18 ?_
          refine g_astore_n (L' := [(3, rv b r11), (0, rv b (some this)), (1, rv b (some p1)), (2, .int v3)]) (pc := 21) G dX6_settle_21 (by decide) rfl ?_
          refine g_aload_n (pc := 22) G dX6_settle_22 0 rfl ?_
          cases r11 with
          | none =>
            dsimp only at h
            refine g_ifnullN (pc := 23) G 38 dX6_settle_23 (by decide) ?_
            refine g_iinc (v := v3 + 1) (L' := [(2, .int (v3 + 1)), (3, rv b none), (0, rv b (some this)), (1, rv b (some p1))]) (pc := 38) G dX6_settle_38 3 rfl rfl (by decide) rfl ?_
            refine g_goto (pc := 41) G 10 dX6_settle_41 (by decide) ?_
            exact g_sub [2, 3, 0] rfl (ih5 _ _ h)
          | some r12 =>
            dsimp only at h
            refine g_ifnullS (pc := 23) G dX6_settle_23 ?_
            refine g_aload_n (pc := 26) G dX6_settle_26 1 rfl ?_
            refine g_aload_n (pc := 27) G dX6_settle_27 2 rfl ?_
            refine g_aload_n (pc := 28) G dX6_settle_28 0 rfl ?_
            refine g_aload_n (pc := 29) G dX6_settle_29 1 rfl ?_
            obtain ⟨r13, e14, h⟩ := bd_e h
            obtain ⟨f15, k16⟩ := ck_e e14
            refine g_getR (pc := 30) G ci_5 (uw_5 G.2.2.2.2.1) (k := 0) (by decide) rfl rfl k_this (q136 G.2.2.2.2.1) dX6_settle_30 f15 ?_
            refine g_iload_n (pc := 33) G dX6_settle_33 3 rfl ?_
            obtain ⟨b17, h⟩ := gd_e h
            obtain ⟨r18, e19, h⟩ := bd_e h
            obtain ⟨f20, k21⟩ := ck_e e19
            refine g_aald (pc := 34) G (t0 := 3) k16 (by decide) rfl b17 dX6_settle_34 f20 ?_
            obtain ⟨r24, e23, h⟩ := bd_e h
            have k22 : kd T r12 = 7 := by
              obtain ⟨ee, k0⟩ := ck_e e23
              cases ee
              exact k0
            obtain ⟨V26, e25, h⟩ := bd_e h
            refine g_callV (pc := 35) (As := [rv b (some p1), rv b (some r12), rv b (some r18)]) (rest := []) (st2 := []) G (c_Sc_findLeast l D ca b k_this k_p1 k22 k21 e25) (mb_Sc_findLeast G.2.2.2.2.1) (q558 G.2.2.2.2.1) (q5 G.2.2.2.2.1) (q556 G.2.2.2.2.1) ci_5 k_this rfl rfl (Nat.le_of_ble_eq_true rfl) ⟨Nat.le_trans (Nat.le_of_ble_eq_true rfl) hR.1, Nat.le_trans (Nat.le_of_ble_eq_true rfl) hR.2⟩ ⟨Nat.zero_le _, Nat.zero_le _⟩ rfl rfl dX6_settle_35 ?_
            refine g_iinc (v := v3 + 1) (L' := [(2, .int (v3 + 1)), (3, rv b (some r12)), (0, rv b (some this)), (1, rv b (some p1))]) (pc := 38) G dX6_settle_38 3 rfl rfl (by decide) rfl ?_
            refine g_goto (pc := 41) G 10 dX6_settle_41 (by decide) ?_
            exact g_sub [2, 3, 0] rfl (ih5 _ _ h)
    exact g_sub [1, 2, 0] rfl (LP6 _ _ _ h)
  · rw [if_neg c1] at h
    cases h
    exact g_vret (pc := 7) G dX6_settle_7
theorem c_Sc_settle (l : Launch) (D : va_G) (ca : Nat → ClassId) (b : Nat) {T : Tx} {V : Vx} {this : Nat} {p1 : Nat}  {Vf : Vx} (k_this : kd T this = 5) (k_p1 : kd T p1 = 2) (h : Sc_settle T V this p1 = some Vf) : MG l yX6_settle cX6_settle 4 (Option.none : Option Jvm.ClassFile.FieldType) 4 102 0 0 D ca b [rv b (some this), rv b (some p1)] T V none T Vf :=
  MG.ofWG (L := [(0, rv b (some this)), (1, rv b (some p1))]) (by decide +kernel) rfl (Nat.le_of_ble_eq_true rfl) (fun _ _ _ _ _ _ _ G _ => w_Sc_settle G ⟨Nat.le_refl _, Nat.le_refl _⟩ k_this k_p1 h)
set_option maxHeartbeats 4000000 in
set_option maxRecDepth 100000 in
theorem w_Sc_rowOf {p : Program} {l : Launch} {e : Env} {R : Room} {s : State} {m : MethodId} {args : Array Value} {below : List Frame} {meth : Method} {c : Code} {D : va_G} {ca : Nat → ClassId} {b : Nat} {T : Tx} {V : Vx} (G : GX p s m meth c cX6_rowOf 2 (Option.some (Jvm.ClassFile.FieldType.object "RebusSigns$Row")) RX6 "rowOf" D ca b) (hR : 0 ≤ R.frames ∧ 0 ≤ R.locals) {this : Nat} {p1 : Int32} {rr : (Option Nat)}  (k_this : kd T this = 5) (h : Sc_rowOf T V this p1 = some rr) : WG p l e R s m args below meth c D ca b 2 (QG D ca b (some (rv b rr)) T V below args s 0 0) 0 0 T V 0 [(0, rv b (some this)), (1, .int p1)] [] := by
  unfold Sc_rowOf at h
  refine g_iload_n (pc := 0) G dX6_rowOf_0 1 rfl ?_
  refine g_if_lt (pc := 1) G 19 dX6_rowOf_1 (by decide) (fun c1 => ?_) (fun c1 => ?_)
  · rw [if_pos c1] at h
    refine g_null (pc := 19) G dX6_rowOf_19 ?_
    cases h
    exact g_aret (pc := 20) G dX6_rowOf_20
  · rw [if_neg c1] at h
    refine g_iload_n (pc := 4) G dX6_rowOf_4 1 rfl ?_
    refine g_bipush (pc := 5) G (v := 8) dX6_rowOf_5 (by decide) ?_
    refine g_icmp_ge (pc := 7) G 19 dX6_rowOf_7 (by decide) (fun c2 => ?_) (fun c2 => ?_)
    · rw [if_pos c2] at h
      refine g_null (pc := 19) G dX6_rowOf_19 ?_
      cases h
      exact g_aret (pc := 20) G dX6_rowOf_20
    · rw [if_neg c2] at h
      refine g_aload_n (pc := 10) G dX6_rowOf_10 0 rfl ?_
      obtain ⟨r3, e4, h⟩ := bd_e h
      obtain ⟨f5, k6⟩ := ck_e e4
      refine g_getR (pc := 11) G ci_5 (uw_5 G.2.2.2.2.1) (k := 0) (by decide) rfl rfl k_this (q136 G.2.2.2.2.1) dX6_rowOf_11 f5 ?_
      refine g_iload_n (pc := 14) G dX6_rowOf_14 1 rfl ?_
      obtain ⟨b7, h⟩ := gd_e h
      obtain ⟨r8, e9, h⟩ := bd_e h
      obtain ⟨f10, k11⟩ := ck_e e9
      refine g_aald (pc := 15) G (t0 := 3) k6 (by decide) rfl b7 dX6_rowOf_15 f10 ?_
      refine g_goto (pc := 16) G 20 dX6_rowOf_16 (by decide) ?_
      cases h
      exact g_aret (pc := 20) G dX6_rowOf_20
theorem c_Sc_rowOf (l : Launch) (D : va_G) (ca : Nat → ClassId) (b : Nat) {T : Tx} {V : Vx} {this : Nat} {p1 : Int32} {rr : (Option Nat)}  (k_this : kd T this = 5) (h : Sc_rowOf T V this p1 = some rr) : MG l yX6_rowOf cX6_rowOf 2 (Option.some (Jvm.ClassFile.FieldType.object "RebusSigns$Row")) 0 0 0 0 D ca b [rv b (some this), .int p1] T V (some (rv b rr)) T V :=
  MG.ofWG (L := [(0, rv b (some this)), (1, .int p1)]) (by decide +kernel) rfl (Nat.le_of_ble_eq_true rfl) (fun _ _ _ _ _ _ _ G _ => w_Sc_rowOf G ⟨Nat.le_refl _, Nat.le_refl _⟩ k_this h)
set_option maxHeartbeats 4000000 in
set_option maxRecDepth 100000 in
theorem w_Sc_rowsOfSounds {p : Program} {l : Launch} {e : Env} {R : Room} {s : State} {m : MethodId} {args : Array Value} {below : List Frame} {meth : Method} {c : Code} {D : va_G} {ca : Nat → ClassId} {b : Nat} {T : Tx} {V : Vx} (G : GX p s m meth c cX6_rowsOfSounds 9 (Option.some Jvm.ClassFile.FieldType.long) RX6 "rowsOfSounds" D ca b) (hR : 2 ≤ R.frames ∧ 47 ≤ R.locals) {this : Nat} {p1 : Nat} {p2 : Nat} {rr : Int64} {Vf : Vx} (k_this : kd T this = 5) (k_p1 : kd T p1 = 2) (k_p2 : kd T p2 = 7) (h : Sc_rowsOfSounds T V this p1 p2 = some (rr, Vf)) : WG p l e R s m args below meth c D ca b 9 (QG D ca b (some (.long rr)) T Vf below args s 0 0) 0 0 T V 0 [(0, rv b (some this)), (1, rv b (some p1)), (2, rv b (some p2))] [] := by
  unfold Sc_rowsOfSounds at h
  refine g_aload_n (pc := 0) G dX6_rowsOfSounds_0 0 rfl ?_
  obtain ⟨r1, e2, h⟩ := bd_e h
  obtain ⟨f3, k4⟩ := ck_e e2
  refine g_getR (pc := 1) G ci_5 (uw_5 G.2.2.2.2.1) (k := 4) (by decide) rfl rfl k_this (q140 G.2.2.2.2.1) dX6_rowsOfSounds_1 f3 ?_
  refine g_lconst (pc := 4) G (v := 0) dX6_rowsOfSounds_4 (by decide) ?_
  obtain ⟨V6, e5, h⟩ := bd_e h
  refine g_callS (pc := 5) (As := [rv b (some r1), .long 0]) (rest := []) (st2 := []) G (c_Ja_fillL l D ca b k4 e5) (mb_Ja_fillL G.2.2.2.2.1) (q671 G.2.2.2.2.1) (q670 G.2.2.2.2.1) rfl rfl (Nat.le_of_ble_eq_true rfl) ⟨Nat.le_trans (Nat.le_of_ble_eq_true rfl) hR.1, Nat.le_trans (Nat.le_of_ble_eq_true rfl) hR.2⟩ ⟨Nat.zero_le _, Nat.zero_le _⟩ rfl rfl dX6_rowsOfSounds_5 ?_
  refine g_aload_n (pc := 8) G dX6_rowsOfSounds_8 0 rfl ?_
  obtain ⟨r7, e8, h⟩ := bd_e h
  obtain ⟨f9, k10⟩ := ck_e e8
  refine g_getR (pc := 9) G ci_5 (uw_5 G.2.2.2.2.1) (k := 4) (by decide) rfl rfl k_this (q140 G.2.2.2.2.1) dX6_rowsOfSounds_9 f9 ?_
  refine g_iconst (pc := 12) G (v := 0) dX6_rowsOfSounds_12 (by decide) ?_
  refine g_lconst (pc := 13) G (v := 1) dX6_rowsOfSounds_13 (by decide) ?_
  obtain ⟨b11, h⟩ := gd_e h
  obtain ⟨V12, e13, h⟩ := lt_e h
  refine g_last (pc := 14) G k10 b11 e13 dX6_rowsOfSounds_14 ?_
  refine g_lconst (pc := 15) G (v := 0) dX6_rowsOfSounds_15 (by decide) ?_
  refine g_lstore_n (L' := [(3, .long 0), (0, rv b (some this)), (1, rv b (some p1)), (2, rv b (some p2))]) (pc := 16) G dX6_rowsOfSounds_16 (by decide) rfl ?_
  refine g_iconst (pc := 17) G (v := 0) dX6_rowsOfSounds_17 (by decide) ?_
  refine g_istore (L' := [(5, .int 0), (3, .long 0), (0, rv b (some this)), (1, rv b (some p1)), (2, rv b (some p2))]) (pc := 18) G dX6_rowsOfSounds_18 (by decide) rfl ?_
  have LP19 : ∀ (n14 : Nat) (V17 : Vx) (v15 : Int64) (v16 : Int32), Sc_rowsOfSounds_L20 T this p1 p2 n14 V17 v15 v16 = some (rr, Vf) → WG p l e R s m args below meth c D ca b 9 (QG D ca b (some (.long rr)) T Vf below args s 0 0) 0 0 T V17 20 [(0, rv b (some this)), (1, rv b (some p1)), (2, rv b (some p2)), (3, .long v15), (5, .int v16)] [] := by
    intro n14
    induction n14 with
    | zero =>
      intro V17 v15 v16 h
      cases h
    | succ n14 ih18 =>
      intro V17 v15 v16 h
      rw [Sc_rowsOfSounds_L20] at h
      refine g_iload (pc := 20) G dX6_rowsOfSounds_20 4 rfl ?_
      refine g_aload_n (pc := 22) G dX6_rowsOfSounds_22 2 rfl ?_
      obtain ⟨r20, e21, h⟩ := bd_e h
      obtain ⟨f22, k23⟩ := ck_e e21
      refine g_getRN (pc := 23) G ci_7 (uw_7 G.2.2.2.2.1) (k := 0) (by decide) rfl rfl k_p2 (q287 G.2.2.2.2.1) dX6_rowsOfSounds_23 f22 ?_
      obtain ⟨r25, e24, h⟩ := bd_e h
      refine g_callV (pc := 26) (As := []) (rest := [.int v16]) (st2 := [.int r25, .int v16]) G (c_Le_size l D ca b k23 e24) (mb_Le_size G.2.2.2.2.1) (q332 G.2.2.2.2.1) (q333 G.2.2.2.2.1) (q560 G.2.2.2.2.1) ci_1 k23 rfl rfl (Nat.le_of_ble_eq_true rfl) ⟨Nat.le_trans (Nat.le_of_ble_eq_true rfl) hR.1, Nat.le_trans (Nat.le_of_ble_eq_true rfl) hR.2⟩ ⟨Nat.zero_le _, Nat.zero_le _⟩ rfl rfl dX6_rowsOfSounds_26 ?_
      refine g_icmp_gt (pc := 29) G 158 dX6_rowsOfSounds_29 (by decide) (fun c26 => ?_) (fun c26 => ?_)
      · rw [if_pos c26] at h
        refine g_lload_n (pc := 158) G dX6_rowsOfSounds_158 3 rfl ?_
        cases h
        exact g_lret (pc := 159) G dX6_rowsOfSounds_159
      · rw [if_neg c26] at h
        refine g_iload (pc := 32) G dX6_rowsOfSounds_32 4 rfl ?_
        refine g_bipush (pc := 34) G (v := 8) dX6_rowsOfSounds_34 (by decide) ?_
        refine g_icmp_gt (pc := 36) G 158 dX6_rowsOfSounds_36 (by decide) (fun c27 => ?_) (fun c27 => ?_)
        · rw [if_pos c27] at h
          refine g_lload_n (pc := 158) G dX6_rowsOfSounds_158 3 rfl ?_
          cases h
          exact g_lret (pc := 159) G dX6_rowsOfSounds_159
        · rw [if_neg c27] at h
          refine g_iload (pc := 39) G dX6_rowsOfSounds_39 4 rfl ?_
          obtain ⟨x28, hx30, h⟩ := bd_e h
          have K29 : WG p l e R s m args below meth c D ca b 9 (QG D ca b (some (.long rr)) T Vf below args s 0 0) 0 0 T V17 64 [(0, rv b (some this)), (1, rv b (some p1)), (2, rv b (some p2)), (3, .long x28), (5, .int v16)] [] := by
            refine g_iconst (pc := 64) G (v := 0) dX6_rowsOfSounds_64 (by decide) ?_
            refine g_istore (L' := [(6, .int 0), (0, rv b (some this)), (1, rv b (some p1)), (2, rv b (some p2)), (3, .long x28), (5, .int v16)]) (pc := 65) G dX6_rowsOfSounds_65 (by decide) rfl ?_
            have LP47 : ∀ (n43 : Nat) (V45 : Vx) (v44 : Int32) (V48 : Vx), Sc_rowsOfSounds_L67 T this p1 p2 x28 v16 n43 V45 v44 = some (V48) → WG p l e R s m args below meth c D ca b 9 (QG D ca b (some (.long rr)) T Vf below args s 0 0) 0 0 T V48 152 [(0, rv b (some this)), (1, rv b (some p1)), (2, rv b (some p2)), (3, .long x28), (5, .int v16)] [] → WG p l e R s m args below meth c D ca b 9 (QG D ca b (some (.long rr)) T Vf below args s 0 0) 0 0 T V45 67 [(0, rv b (some this)), (1, rv b (some p1)), (2, rv b (some p2)), (3, .long x28), (5, .int v16), (6, .int v44)] [] := by
              intro n43
              induction n43 with
              | zero =>
                intro V45 v44 V48 h
                cases h
              | succ n43 ih46 =>
                intro V45 v44 V48 h K49
                rw [Sc_rowsOfSounds_L67.eq_def] at h
                dsimp only at h
                refine g_iload (pc := 67) G dX6_rowsOfSounds_67 5 rfl ?_
                refine g_aload_n (pc := 69) G dX6_rowsOfSounds_69 1 rfl ?_
                refine g_getIN (pc := 70) G ci_2 (uw_2 G.2.2.2.2.1) (k := 2) (by decide) rfl rfl k_p1 (q304 G.2.2.2.2.1) dX6_rowsOfSounds_70 ?_
                refine g_icmp_ge (pc := 73) G 152 dX6_rowsOfSounds_73 (by decide) (fun c50 => ?_) (fun c50 => ?_)
                · rw [if_pos c50] at h
                  cases h
                  exact g_sub [0, 1, 2, 3, 4] rfl K49
                · rw [if_neg c50] at h
                  refine g_aload_n (pc := 76) G dX6_rowsOfSounds_76 0 rfl ?_
                  obtain ⟨r51, e52, h⟩ := bd_e h
                  obtain ⟨f53, k54⟩ := ck_e e52
                  refine g_getR (pc := 77) G ci_5 (uw_5 G.2.2.2.2.1) (k := 4) (by decide) rfl rfl k_this (q140 G.2.2.2.2.1) dX6_rowsOfSounds_77 f53 ?_
                  refine g_iload (pc := 80) G dX6_rowsOfSounds_80 4 rfl ?_
                  obtain ⟨b55, h⟩ := gd_e h
                  refine g_lald (pc := 82) G k54 b55 dX6_rowsOfSounds_82 ?_
                  refine g_lconst (pc := 83) G (v := 0) dX6_rowsOfSounds_83 (by decide) ?_
                  refine g_lcmp (pc := 84) G dX6_rowsOfSounds_84 ?_
                  refine g_if_le (pc := 85) G 152 dX6_rowsOfSounds_85 (by decide) (fun c56 => ?_) (fun c56 => ?_)
                  · rw [if_pos c56] at h
                    cases h
                    exact g_sub [0, 1, 2, 3, 4] rfl K49
                  · rw [if_neg c56] at h
                    refine g_aload_n (pc := 88) G dX6_rowsOfSounds_88 1 rfl ?_
                    refine g_iload (pc := 89) G dX6_rowsOfSounds_89 5 rfl ?_
                    obtain ⟨r58, e57, h⟩ := bd_e h
                    refine g_callV (pc := 91) (As := [.int v44]) (rest := []) (st2 := [rv b r58]) G (c_Lx_signAt l D ca b k_p1 e57) (mb_Lx_signAt G.2.2.2.2.1) (q463 G.2.2.2.2.1) (q464 G.2.2.2.2.1) (q573 G.2.2.2.2.1) ci_2 k_p1 rfl rfl (Nat.le_of_ble_eq_true rfl) ⟨Nat.le_trans (Nat.le_of_ble_eq_true rfl) hR.1, Nat.le_trans (Nat.le_of_ble_eq_true rfl) hR.2⟩ ⟨Nat.zero_le _, Nat.zero_le _⟩ rfl rfl dX6_rowsOfSounds_91 ?_
                    refine g_astore (L' := [(7, rv b r58), (0, rv b (some this)), (1, rv b (some p1)), (2, rv b (some p2)), (3, .long x28), (5, .int v16), (6, .int v44)]) (pc := 94) G dX6_rowsOfSounds_94 (by decide) rfl ?_
                    refine g_aload (pc := 96) G dX6_rowsOfSounds_96 0 rfl ?_
                    obtain ⟨x59, hx61, h⟩ := bd_e h
                    have K60 : WG p l e R s m args below meth c D ca b 9 (QG D ca b (some (.long rr)) T Vf below args s 0 0) 0 0 T V45 115 [(0, rv b (some this)), (1, rv b (some p1)), (2, rv b (some p2)), (3, .long x28), (5, .int v16), (6, .int v44)] [.int x59] := by
                      refine g_istore (L' := [(8, .int x59), (0, rv b (some this)), (1, rv b (some p1)), (2, rv b (some p2)), (3, .long x28), (5, .int v16), (6, .int v44)]) (pc := 115) G dX6_rowsOfSounds_115 (by decide) rfl ?_
                      refine g_iload (pc := 117) G dX6_rowsOfSounds_117 0 rfl ?_
                      refine g_if_lt (pc := 119) G 146 dX6_rowsOfSounds_119 (by decide) (fun c69 => ?_) (fun c69 => ?_)
                      · rw [if_pos c69] at h
                        refine g_iinc (v := v44 + 1) (L' := [(6, .int (v44 + 1)), (8, .int x59), (0, rv b (some this)), (1, rv b (some p1)), (2, rv b (some p2)), (3, .long x28), (5, .int v16)]) (pc := 146) G dX6_rowsOfSounds_146 6 rfl rfl (by decide) rfl ?_
                        refine g_goto (pc := 149) G 67 dX6_rowsOfSounds_149 (by decide) ?_
                        exact g_sub [2, 3, 4, 5, 6, 0] rfl (ih46 _ _ _ h K49)
                      · rw [if_neg c69] at h
                        refine g_iload (pc := 122) G dX6_rowsOfSounds_122 0 rfl ?_
                        refine g_bipush (pc := 124) G (v := 8) dX6_rowsOfSounds_124 (by decide) ?_
                        refine g_icmp_gt (pc := 126) G 146 dX6_rowsOfSounds_126 (by decide) (fun c70 => ?_) (fun c70 => ?_)
                        · rw [if_pos c70] at h
                          refine g_iinc (v := v44 + 1) (L' := [(6, .int (v44 + 1)), (8, .int x59), (0, rv b (some this)), (1, rv b (some p1)), (2, rv b (some p2)), (3, .long x28), (5, .int v16)]) (pc := 146) G dX6_rowsOfSounds_146 6 rfl rfl (by decide) rfl ?_
                          refine g_goto (pc := 149) G 67 dX6_rowsOfSounds_149 (by decide) ?_
                          exact g_sub [2, 3, 4, 5, 6, 0] rfl (ih46 _ _ _ h K49)
                        · rw [if_neg c70] at h
                          refine g_aload_n (pc := 129) G dX6_rowsOfSounds_129 1 rfl ?_
                          obtain ⟨r71, e72, h⟩ := bd_e h
                          obtain ⟨f73, k74⟩ := ck_e e72
                          refine g_getR (pc := 130) G ci_5 (uw_5 G.2.2.2.2.1) (k := 4) (by decide) rfl rfl k_this (q140 G.2.2.2.2.1) dX6_rowsOfSounds_130 f73 ?_
                          refine g_iload (pc := 133) G dX6_rowsOfSounds_133 0 rfl ?_
                          refine g_dup2 (pc := 135) G dX6_rowsOfSounds_135 rfl rfl ?_
                          obtain ⟨b75, h⟩ := gd_e h
                          refine g_lald (pc := 136) G k74 b75 dX6_rowsOfSounds_136 ?_
                          refine g_aload_n (pc := 137) G dX6_rowsOfSounds_137 1 rfl ?_
                          obtain ⟨r76, e77, h⟩ := bd_e h
                          obtain ⟨f78, k79⟩ := ck_e e77
                          refine g_getR (pc := 138) G ci_5 (uw_5 G.2.2.2.2.1) (k := 4) (by decide) rfl rfl k_this (q140 G.2.2.2.2.1) dX6_rowsOfSounds_138 f78 ?_
                          refine g_iload (pc := 141) G dX6_rowsOfSounds_141 5 rfl ?_
                          obtain ⟨b80, h⟩ := gd_e h
                          refine g_lald (pc := 143) G k79 b80 dX6_rowsOfSounds_143 ?_
                          refine g_ladd (pc := 144) G dX6_rowsOfSounds_144 ?_
                          obtain ⟨b81, h⟩ := gd_e h
                          obtain ⟨V82, e83, h⟩ := lt_e h
                          refine g_last (pc := 145) G k74 b81 e83 dX6_rowsOfSounds_145 ?_
                          refine g_iinc (v := v44 + 1) (L' := [(6, .int (v44 + 1)), (8, .int x59), (0, rv b (some this)), (1, rv b (some p1)), (2, rv b (some p2)), (3, .long x28), (5, .int v16)]) (pc := 146) G dX6_rowsOfSounds_146 6 rfl rfl (by decide) rfl ?_
                          refine g_goto (pc := 149) G 67 dX6_rowsOfSounds_149 (by decide) ?_
                          exact g_sub [2, 3, 4, 5, 6, 0] rfl (ih46 _ _ _ h K49)
                    cases r58 with
                    | none =>
                      dsimp only at hx61
                      refine g_ifnonnullN (pc := 98) G dX6_rowsOfSounds_98 ?_
                      refine g_bipush (pc := 101) G (v := (-4)) dX6_rowsOfSounds_101 (by decide) ?_
                      refine g_goto (pc := 103) G 115 dX6_rowsOfSounds_103 (by decide) ?_
                      cases hx61
                      exact g_sub [1, 2, 3, 4, 5, 6] rfl K60
                    | some r63 =>
                      dsimp only at hx61
                      refine g_ifnonnullS (pc := 98) G 106 dX6_rowsOfSounds_98 (by decide) ?_
                      refine g_aload_n (pc := 106) G dX6_rowsOfSounds_106 2 rfl ?_
                      refine g_aload_n (pc := 107) G dX6_rowsOfSounds_107 3 rfl ?_
                      refine g_iload (pc := 108) G dX6_rowsOfSounds_108 5 rfl ?_
                      refine g_aload (pc := 110) G dX6_rowsOfSounds_110 0 rfl ?_
                      obtain ⟨r66, e65, hx61⟩ := bd_e hx61
                      have k64 : kd T r63 = 6 := by
                        obtain ⟨ee, k0⟩ := ck_e e65
                        cases ee
                        exact k0
                      obtain ⟨r68, e67, hx61⟩ := bd_e hx61
                      refine g_callV (pc := 112) (As := [rv b (some p2), .int v16, rv b (some r63)]) (rest := []) (st2 := [.int r68]) G (c_Lx_placeBehind l D ca b k_p1 k_p2 k64 e67) (mb_Lx_placeBehind G.2.2.2.2.1) (q575 G.2.2.2.2.1) (q576 G.2.2.2.2.1) (q574 G.2.2.2.2.1) ci_2 k_p1 rfl rfl (Nat.le_of_ble_eq_true rfl) ⟨Nat.le_trans (Nat.le_of_ble_eq_true rfl) hR.1, Nat.le_trans (Nat.le_of_ble_eq_true rfl) hR.2⟩ ⟨Nat.zero_le _, Nat.zero_le _⟩ rfl rfl dX6_rowsOfSounds_112 ?_
                      cases hx61
                      exact g_sub [1, 2, 3, 4, 5, 6] rfl K60
            obtain ⟨V48, e84, h⟩ := bd_e h
            refine g_sub [1, 2, 3, 4, 5, 0] rfl (LP47 _ _ _ _ e84 ?_)
            refine g_iinc (v := v16 + 1) (L' := [(5, .int (v16 + 1)), (0, rv b (some this)), (1, rv b (some p1)), (2, rv b (some p2)), (3, .long x28)]) (pc := 152) G dX6_rowsOfSounds_152 4 rfl rfl (by decide) rfl ?_
            refine g_goto (pc := 155) G 20 dX6_rowsOfSounds_155 (by decide) ?_
            exact g_sub [1, 2, 3, 4, 0] rfl (ih18 _ _ _ h)
          refine g_if_le (pc := 41) G 64 dX6_rowsOfSounds_41 (by decide) (fun c32 => ?_) (fun c32 => ?_)
          · rw [if_pos c32] at hx30
            cases hx30
            exact g_sub [0, 1, 2, 3, 4] rfl K29
          · rw [if_neg c32] at hx30
            refine g_aload_n (pc := 44) G dX6_rowsOfSounds_44 1 rfl ?_
            refine g_aload_n (pc := 45) G dX6_rowsOfSounds_45 2 rfl ?_
            refine g_iload (pc := 46) G dX6_rowsOfSounds_46 4 rfl ?_
            obtain ⟨r34, e33, hx30⟩ := bd_e hx30
            refine g_callV (pc := 48) (As := [rv b (some p2), .int v16]) (rest := []) (st2 := [.int r34]) G (c_Lx_mayEndAt l D ca b k_p1 k_p2 e33) (mb_Lx_mayEndAt G.2.2.2.2.1) (q566 G.2.2.2.2.1) (q567 G.2.2.2.2.1) (q565 G.2.2.2.2.1) ci_2 k_p1 rfl rfl (Nat.le_of_ble_eq_true rfl) ⟨Nat.le_trans (Nat.le_of_ble_eq_true rfl) hR.1, Nat.le_trans (Nat.le_of_ble_eq_true rfl) hR.2⟩ ⟨Nat.zero_le _, Nat.zero_le _⟩ rfl rfl dX6_rowsOfSounds_48 ?_
            refine g_if_eq (pc := 51) G 64 dX6_rowsOfSounds_51 (by decide) (fun c35 => ?_) (fun c35 => ?_)
            · rw [if_pos c35] at hx30
              cases hx30
              exact g_sub [0, 1, 2, 3, 4] rfl K29
            · rw [if_neg c35] at hx30
              refine g_lload_n (pc := 54) G dX6_rowsOfSounds_54 3 rfl ?_
              refine g_aload_n (pc := 55) G dX6_rowsOfSounds_55 0 rfl ?_
              obtain ⟨r36, e37, hx30⟩ := bd_e hx30
              obtain ⟨f38, k39⟩ := ck_e e37
              refine g_getR (pc := 56) G ci_5 (uw_5 G.2.2.2.2.1) (k := 4) (by decide) rfl rfl k_this (q140 G.2.2.2.2.1) dX6_rowsOfSounds_56 f38 ?_
              refine g_iload (pc := 59) G dX6_rowsOfSounds_59 4 rfl ?_
              obtain ⟨b40, hx30⟩ := gd_e hx30
              refine g_lald (pc := 61) G k39 b40 dX6_rowsOfSounds_61 ?_
              refine g_ladd (pc := 62) G dX6_rowsOfSounds_62 ?_
              obtain ⟨x41, e42, hx30⟩ := lt_e hx30
              rw [e42]
              refine g_lstore_n (L' := [(3, .long x41), (0, rv b (some this)), (1, rv b (some p1)), (2, rv b (some p2)), (5, .int v16)]) (pc := 63) G dX6_rowsOfSounds_63 (by decide) rfl ?_
              cases hx30
              exact g_sub [1, 2, 3, 0, 4] rfl K29
  exact g_sub [2, 3, 4, 1, 0] rfl (LP19 _ _ _ _ h)
theorem c_Sc_rowsOfSounds (l : Launch) (D : va_G) (ca : Nat → ClassId) (b : Nat) {T : Tx} {V : Vx} {this : Nat} {p1 : Nat} {p2 : Nat} {rr : Int64} {Vf : Vx} (k_this : kd T this = 5) (k_p1 : kd T p1 = 2) (k_p2 : kd T p2 = 7) (h : Sc_rowsOfSounds T V this p1 p2 = some (rr, Vf)) : MG l yX6_rowsOfSounds cX6_rowsOfSounds 9 (Option.some Jvm.ClassFile.FieldType.long) 2 47 0 0 D ca b [rv b (some this), rv b (some p1), rv b (some p2)] T V (some (.long rr)) T Vf :=
  MG.ofWG (L := [(0, rv b (some this)), (1, rv b (some p1)), (2, rv b (some p2))]) (by decide +kernel) rfl (Nat.le_of_ble_eq_true rfl) (fun _ _ _ _ _ _ _ G _ => w_Sc_rowsOfSounds G ⟨Nat.le_refl _, Nat.le_refl _⟩ k_this k_p1 k_p2 h)
set_option maxHeartbeats 4000000 in
set_option maxRecDepth 100000 in
theorem w_RS_write {p : Program} {l : Launch} {e : Env} {R : Room} {s : State} {m : MethodId} {args : Array Value} {below : List Frame} {meth : Method} {c : Code} {D : va_G} {ca : Nat → ClassId} {b : Nat} {T : Tx} {V : Vx} (G : GX p s m meth c cX9_write 2 (Option.some Jvm.ClassFile.FieldType.int) RX9 "write" D ca b) (hR : 1 ≤ R.frames ∧ 21 ≤ R.locals) {this : Nat} {p1 : Int32} {rr : Int32} {Vf : Vx} (k_this : kd T this = 8) (h : RS_write T V this p1 = some (rr, Vf)) : WG p l e R s m args below meth c D ca b 2 (QG D ca b (some (.int rr)) T Vf below args s 0 0) 0 0 T V 0 [(0, rv b (some this)), (1, .int p1)] [] := by
  unfold RS_write at h
  refine g_iload_n (pc := 0) G dX9_write_0 1 rfl ?_
  refine g_bipush (pc := 1) G (v := 32) dX9_write_1 (by decide) ?_
  refine g_icmp_lt (pc := 3) G 12 dX9_write_3 (by decide) (fun c1 => ?_) (fun c1 => ?_)
  · rw [if_pos c1] at h
    refine g_iconst (pc := 12) G (v := (-1)) dX9_write_12 (by decide) ?_
    cases h
    exact g_iret (pc := 13) G dX9_write_13
  · rw [if_neg c1] at h
    refine g_iload_n (pc := 6) G dX9_write_6 1 rfl ?_
    refine g_bipush (pc := 7) G (v := 126) dX9_write_7 (by decide) ?_
    refine g_icmp_le (pc := 9) G 14 dX9_write_9 (by decide) (fun c2 => ?_) (fun c2 => ?_)
    · rw [if_pos c2] at h
      refine g_aload_n (pc := 14) G dX9_write_14 0 rfl ?_
      obtain ⟨r3, e4, h⟩ := bd_e h
      obtain ⟨f5, k6⟩ := ck_e e4
      refine g_getR (pc := 15) G ci_8 (uw_8 G.2.2.2.2.1) (k := 0) (by decide) rfl rfl k_this (q399 G.2.2.2.2.1) dX9_write_15 f5 ?_
      obtain ⟨r8, e7, h⟩ := bd_e h
      refine g_callV (pc := 18) (As := []) (rest := []) (st2 := [.int r8]) G (c_Le_isFull l D ca b k6 e7) (mb_Le_isFull G.2.2.2.2.1) (q429 G.2.2.2.2.1) (q430 G.2.2.2.2.1) (q428 G.2.2.2.2.1) ci_1 k6 rfl rfl (Nat.le_of_ble_eq_true rfl) ⟨Nat.le_trans (Nat.le_of_ble_eq_true rfl) hR.1, Nat.le_trans (Nat.le_of_ble_eq_true rfl) hR.2⟩ ⟨Nat.zero_le _, Nat.zero_le _⟩ rfl rfl dX9_write_18 ?_
      refine g_if_eq (pc := 21) G 27 dX9_write_21 (by decide) (fun c9 => ?_) (fun c9 => ?_)
      · rw [if_pos c9] at h
        refine g_aload_n (pc := 27) G dX9_write_27 0 rfl ?_
        obtain ⟨r10, e11, h⟩ := bd_e h
        obtain ⟨f12, k13⟩ := ck_e e11
        refine g_getR (pc := 28) G ci_8 (uw_8 G.2.2.2.2.1) (k := 0) (by decide) rfl rfl k_this (q399 G.2.2.2.2.1) dX9_write_28 f12 ?_
        refine g_iload_n (pc := 31) G dX9_write_31 1 rfl ?_
        refine g_i2c (pc := 32) G dX9_write_32 ?_
        obtain ⟨V15, e14, h⟩ := bd_e h
        refine g_callV (pc := 33) (As := [.int ((Int32.toUInt32 p1 % 65536).toInt32)]) (rest := []) (st2 := []) G (c_Le_put l D ca b k13 e14) (mb_Le_put G.2.2.2.2.1) (q231 G.2.2.2.2.1) (q232 G.2.2.2.2.1) (q230 G.2.2.2.2.1) ci_1 k13 rfl rfl (Nat.le_of_ble_eq_true rfl) ⟨Nat.le_trans (Nat.le_of_ble_eq_true rfl) hR.1, Nat.le_trans (Nat.le_of_ble_eq_true rfl) hR.2⟩ ⟨Nat.zero_le _, Nat.zero_le _⟩ rfl rfl dX9_write_33 ?_
        refine g_aload_n (pc := 36) G dX9_write_36 0 rfl ?_
        obtain ⟨r16, e17, h⟩ := bd_e h
        obtain ⟨f18, k19⟩ := ck_e e17
        refine g_getR (pc := 37) G ci_8 (uw_8 G.2.2.2.2.1) (k := 0) (by decide) rfl rfl k_this (q399 G.2.2.2.2.1) dX9_write_37 f18 ?_
        obtain ⟨r21, e20, h⟩ := bd_e h
        refine g_callV (pc := 40) (As := []) (rest := []) (st2 := [.int r21]) G (c_Le_size l D ca b k19 e20) (mb_Le_size G.2.2.2.2.1) (q332 G.2.2.2.2.1) (q333 G.2.2.2.2.1) (q432 G.2.2.2.2.1) ci_1 k19 rfl rfl (Nat.le_of_ble_eq_true rfl) ⟨Nat.le_trans (Nat.le_of_ble_eq_true rfl) hR.1, Nat.le_trans (Nat.le_of_ble_eq_true rfl) hR.2⟩ ⟨Nat.zero_le _, Nat.zero_le _⟩ rfl rfl dX9_write_40 ?_
        cases h
        exact g_iret (pc := 43) G dX9_write_43
      · rw [if_neg c9] at h
        refine g_bipush (pc := 24) G (v := (-3)) dX9_write_24 (by decide) ?_
        cases h
        exact g_iret (pc := 26) G dX9_write_26
    · rw [if_neg c2] at h
      refine g_iconst (pc := 12) G (v := (-1)) dX9_write_12 (by decide) ?_
      cases h
      exact g_iret (pc := 13) G dX9_write_13
theorem c_RS_write (l : Launch) (D : va_G) (ca : Nat → ClassId) (b : Nat) {T : Tx} {V : Vx} {this : Nat} {p1 : Int32} {rr : Int32} {Vf : Vx} (k_this : kd T this = 8) (h : RS_write T V this p1 = some (rr, Vf)) : MG l yX9_write cX9_write 2 (Option.some Jvm.ClassFile.FieldType.int) 1 21 0 0 D ca b [rv b (some this), .int p1] T V (some (.int rr)) T Vf :=
  MG.ofWG (L := [(0, rv b (some this)), (1, .int p1)]) (by decide +kernel) rfl (Nat.le_of_ble_eq_true rfl) (fun _ _ _ _ _ _ _ G _ => w_RS_write G ⟨Nat.le_refl _, Nat.le_refl _⟩ k_this h)
set_option maxHeartbeats 4000000 in
set_option maxRecDepth 100000 in
theorem w_RS_wipe {p : Program} {l : Launch} {e : Env} {R : Room} {s : State} {m : MethodId} {args : Array Value} {below : List Frame} {meth : Method} {c : Code} {D : va_G} {ca : Nat → ClassId} {b : Nat} {T : Tx} {V : Vx} (G : GX p s m meth c cX9_wipe 2 (Option.some Jvm.ClassFile.FieldType.int) RX9 "wipe" D ca b) (hR : 1 ≤ R.frames ∧ 20 ≤ R.locals) {this : Nat} {rr : Int32} {Vf : Vx} (k_this : kd T this = 8) (h : RS_wipe T V this = some (rr, Vf)) : WG p l e R s m args below meth c D ca b 2 (QG D ca b (some (.int rr)) T Vf below args s 0 0) 0 0 T V 0 [(0, rv b (some this))] [] := by
  unfold RS_wipe at h
  refine g_aload_n (pc := 0) G dX9_wipe_0 0 rfl ?_
  obtain ⟨r1, e2, h⟩ := bd_e h
  obtain ⟨f3, k4⟩ := ck_e e2
  refine g_getR (pc := 1) G ci_8 (uw_8 G.2.2.2.2.1) (k := 0) (by decide) rfl rfl k_this (q399 G.2.2.2.2.1) dX9_wipe_1 f3 ?_
  obtain ⟨r6, e5, h⟩ := bd_e h
  refine g_callV (pc := 4) (As := []) (rest := []) (st2 := [.int r6]) G (c_Le_size l D ca b k4 e5) (mb_Le_size G.2.2.2.2.1) (q332 G.2.2.2.2.1) (q333 G.2.2.2.2.1) (q432 G.2.2.2.2.1) ci_1 k4 rfl rfl (Nat.le_of_ble_eq_true rfl) ⟨Nat.le_trans (Nat.le_of_ble_eq_true rfl) hR.1, Nat.le_trans (Nat.le_of_ble_eq_true rfl) hR.2⟩ ⟨Nat.zero_le _, Nat.zero_le _⟩ rfl rfl dX9_wipe_4 ?_
  refine g_istore_n (L' := [(1, .int r6), (0, rv b (some this))]) (pc := 7) G dX9_wipe_7 (by decide) rfl ?_
  refine g_aload_n (pc := 8) G dX9_wipe_8 1 rfl ?_
  obtain ⟨r7, e8, h⟩ := bd_e h
  obtain ⟨f9, k10⟩ := ck_e e8
  refine g_getR (pc := 9) G ci_8 (uw_8 G.2.2.2.2.1) (k := 0) (by decide) rfl rfl k_this (q399 G.2.2.2.2.1) dX9_wipe_9 f9 ?_
  obtain ⟨V12, e11, h⟩ := bd_e h
  refine g_callV (pc := 12) (As := []) (rest := []) (st2 := []) G (c_Le_clear l D ca b k10 e11) (mb_Le_clear G.2.2.2.2.1) (q362 G.2.2.2.2.1) (q363 G.2.2.2.2.1) (q437 G.2.2.2.2.1) ci_1 k10 rfl rfl (Nat.le_of_ble_eq_true rfl) ⟨Nat.le_trans (Nat.le_of_ble_eq_true rfl) hR.1, Nat.le_trans (Nat.le_of_ble_eq_true rfl) hR.2⟩ ⟨Nat.zero_le _, Nat.zero_le _⟩ rfl rfl dX9_wipe_12 ?_
  refine g_iload_n (pc := 15) G dX9_wipe_15 0 rfl ?_
  cases h
  exact g_iret (pc := 16) G dX9_wipe_16
theorem c_RS_wipe (l : Launch) (D : va_G) (ca : Nat → ClassId) (b : Nat) {T : Tx} {V : Vx} {this : Nat} {rr : Int32} {Vf : Vx} (k_this : kd T this = 8) (h : RS_wipe T V this = some (rr, Vf)) : MG l yX9_wipe cX9_wipe 2 (Option.some Jvm.ClassFile.FieldType.int) 1 20 0 0 D ca b [rv b (some this)] T V (some (.int rr)) T Vf :=
  MG.ofWG (L := [(0, rv b (some this))]) (by decide +kernel) rfl (Nat.le_of_ble_eq_true rfl) (fun _ _ _ _ _ _ _ G _ => w_RS_wipe G ⟨Nat.le_refl _, Nat.le_refl _⟩ k_this h)
set_option maxHeartbeats 4000000 in
set_option maxRecDepth 100000 in
theorem w_RS_fault {p : Program} {l : Launch} {e : Env} {R : Room} {s : State} {m : MethodId} {args : Array Value} {below : List Frame} {meth : Method} {c : Code} {D : va_G} {ca : Nat → ClassId} {b : Nat} {T : Tx} {V : Vx} (G : GX p s m meth c cX9_fault 1 (Option.some Jvm.ClassFile.FieldType.int) RX9 "fault" D ca b) (hR : 5 ≤ R.frames ∧ 118 ≤ R.locals) {this : Nat} {rr : Int32} {Vf : Vx} (k_this : kd T this = 8) (h : RS_fault T V this = some (rr, Vf)) : WG p l e R s m args below meth c D ca b 1 (QG D ca b (some (.int rr)) T Vf below args s 0 0) 0 0 T V 0 [(0, rv b (some this))] [] := by
  unfold RS_fault at h
  refine g_aload_n (pc := 0) G dX9_fault_0 0 rfl ?_
  obtain ⟨r1, e2, h⟩ := bd_e h
  obtain ⟨f3, k4⟩ := ck_e e2
  refine g_getR (pc := 1) G ci_8 (uw_8 G.2.2.2.2.1) (k := 0) (by decide) rfl rfl k_this (q399 G.2.2.2.2.1) dX9_fault_1 f3 ?_
  refine g_aload_n (pc := 4) G dX9_fault_4 0 rfl ?_
  obtain ⟨r5, e6, h⟩ := bd_e h
  obtain ⟨f7, k8⟩ := ck_e e6
  refine g_getR (pc := 5) G ci_8 (uw_8 G.2.2.2.2.1) (k := 7) (by decide) rfl rfl k_this (q406 G.2.2.2.2.1) dX9_fault_5 f7 ?_
  obtain ⟨r11, V10, e9, h⟩ := bd2_e h
  refine g_callS (pc := 8) (As := [rv b (some r1), rv b (some r5)]) (rest := []) (st2 := [.int r11]) G (c_Pa_firstFault l D ca b k4 k8 e9) (mb_Pa_firstFault G.2.2.2.2.1) (q325 G.2.2.2.2.1) (q324 G.2.2.2.2.1) rfl rfl (Nat.le_of_ble_eq_true rfl) ⟨Nat.le_trans (Nat.le_of_ble_eq_true rfl) hR.1, Nat.le_trans (Nat.le_of_ble_eq_true rfl) hR.2⟩ ⟨Nat.zero_le _, Nat.zero_le _⟩ rfl rfl dX9_fault_8 ?_
  cases h
  exact g_iret (pc := 11) G dX9_fault_11
theorem c_RS_fault (l : Launch) (D : va_G) (ca : Nat → ClassId) (b : Nat) {T : Tx} {V : Vx} {this : Nat} {rr : Int32} {Vf : Vx} (k_this : kd T this = 8) (h : RS_fault T V this = some (rr, Vf)) : MG l yX9_fault cX9_fault 1 (Option.some Jvm.ClassFile.FieldType.int) 5 118 0 0 D ca b [rv b (some this)] T V (some (.int rr)) T Vf :=
  MG.ofWG (L := [(0, rv b (some this))]) (by decide +kernel) rfl (Nat.le_of_ble_eq_true rfl) (fun _ _ _ _ _ _ _ G _ => w_RS_fault G ⟨Nat.le_refl _, Nat.le_refl _⟩ k_this h)
set_option maxHeartbeats 4000000 in
set_option maxRecDepth 100000 in
theorem w_RS_lay {p : Program} {l : Launch} {e : Env} {R : Room} {s : State} {m : MethodId} {args : Array Value} {below : List Frame} {meth : Method} {c : Code} {D : va_G} {ca : Nat → ClassId} {b : Nat} {T : Tx} {V : Vx} (G : GX p s m meth c cX9_lay 2 (Option.some Jvm.ClassFile.FieldType.int) RX9 "lay" D ca b) (hR : 5 ≤ R.frames ∧ 118 ≤ R.locals) {this : Nat} {rr : Int32} {Vf : Vx} (k_this : kd T this = 8) (h : RS_lay T V this = some (rr, Vf)) : WG p l e R s m args below meth c D ca b 2 (QG D ca b (some (.int rr)) T Vf below args s 0 0) 0 0 T V 0 [(0, rv b (some this))] [] := by
  unfold RS_lay at h
  refine g_aload_n (pc := 0) G dX9_lay_0 0 rfl ?_
  obtain ⟨r1, e2, h⟩ := bd_e h
  obtain ⟨f3, k4⟩ := ck_e e2
  refine g_getR (pc := 1) G ci_8 (uw_8 G.2.2.2.2.1) (k := 0) (by decide) rfl rfl k_this (q399 G.2.2.2.2.1) dX9_lay_1 f3 ?_
  refine g_aload_n (pc := 4) G dX9_lay_4 0 rfl ?_
  obtain ⟨r5, e6, h⟩ := bd_e h
  obtain ⟨f7, k8⟩ := ck_e e6
  refine g_getR (pc := 5) G ci_8 (uw_8 G.2.2.2.2.1) (k := 7) (by decide) rfl rfl k_this (q406 G.2.2.2.2.1) dX9_lay_5 f7 ?_
  obtain ⟨r11, V10, e9, h⟩ := bd2_e h
  refine g_callS (pc := 8) (As := [rv b (some r1), rv b (some r5)]) (rest := []) (st2 := [.int r11]) G (c_Pa_firstFault l D ca b k4 k8 e9) (mb_Pa_firstFault G.2.2.2.2.1) (q325 G.2.2.2.2.1) (q324 G.2.2.2.2.1) rfl rfl (Nat.le_of_ble_eq_true rfl) ⟨Nat.le_trans (Nat.le_of_ble_eq_true rfl) hR.1, Nat.le_trans (Nat.le_of_ble_eq_true rfl) hR.2⟩ ⟨Nat.zero_le _, Nat.zero_le _⟩ rfl rfl dX9_lay_8 ?_
  refine g_bipush (pc := 11) G (v := (-4)) dX9_lay_11 (by decide) ?_
  refine g_icmp_eq (pc := 13) G 19 dX9_lay_13 (by decide) (fun c12 => ?_) (fun c12 => ?_)
  · rw [if_pos c12] at h
    refine g_aload_n (pc := 19) G dX9_lay_19 0 rfl ?_
    obtain ⟨r13, e14, h⟩ := bd_e h
    obtain ⟨f15, k16⟩ := ck_e e14
    refine g_getR (pc := 20) G ci_8 (uw_8 G.2.2.2.2.1) (k := 7) (by decide) rfl rfl k_this (q406 G.2.2.2.2.1) dX9_lay_20 f15 ?_
    refine g_getIN (pc := 23) G ci_2 (uw_2 G.2.2.2.2.1) (k := 2) (by decide) rfl rfl k16 (q303 G.2.2.2.2.1) dX9_lay_23 ?_
    refine g_if_eq (pc := 26) G 39 dX9_lay_26 (by decide) (fun c17 => ?_) (fun c17 => ?_)
    · rw [if_pos c17] at h
      refine g_bipush (pc := 39) G (v := (-2)) dX9_lay_39 (by decide) ?_
      cases h
      exact g_iret (pc := 41) G dX9_lay_41
    · rw [if_neg c17] at h
      refine g_aload_n (pc := 29) G dX9_lay_29 0 rfl ?_
      obtain ⟨r18, e19, h⟩ := bd_e h
      obtain ⟨f20, k21⟩ := ck_e e19
      refine g_getR (pc := 30) G ci_8 (uw_8 G.2.2.2.2.1) (k := 7) (by decide) rfl rfl k_this (q406 G.2.2.2.2.1) dX9_lay_30 f20 ?_
      refine g_getIN (pc := 33) G ci_2 (uw_2 G.2.2.2.2.1) (k := 3) (by decide) rfl rfl k21 (q308 G.2.2.2.2.1) dX9_lay_33 ?_
      refine g_if_ne (pc := 36) G 42 dX9_lay_36 (by decide) (fun c22 => ?_) (fun c22 => ?_)
      · rw [if_neg c22] at h
        refine g_aload_n (pc := 42) G dX9_lay_42 0 rfl ?_
        obtain ⟨r23, e24, h⟩ := bd_e h
        obtain ⟨f25, k26⟩ := ck_e e24
        refine g_getR (pc := 43) G ci_8 (uw_8 G.2.2.2.2.1) (k := 6) (by decide) rfl rfl k_this (q405 G.2.2.2.2.1) dX9_lay_43 f25 ?_
        refine g_astore_n (L' := [(1, rv b (some r23)), (0, rv b (some this))]) (pc := 46) G dX9_lay_46 (by decide) rfl ?_
        refine g_aload_n (pc := 47) G dX9_lay_47 1 rfl ?_
        refine g_aload_n (pc := 48) G dX9_lay_48 1 rfl ?_
        obtain ⟨r27, e28, h⟩ := bd_e h
        obtain ⟨f29, k30⟩ := ck_e e28
        refine g_getR (pc := 49) G ci_8 (uw_8 G.2.2.2.2.1) (k := 7) (by decide) rfl rfl k_this (q406 G.2.2.2.2.1) dX9_lay_49 f29 ?_
        obtain ⟨V31, e32, h⟩ := lt_e h
        refine g_putR (pc := 52) G ci_8 (uw_8 G.2.2.2.2.1) (k := 6) (by decide) rfl rfl k_this rfl (fun _ => ⟨rfl, rfl⟩) (q405 G.2.2.2.2.1) e32 dX9_lay_52 ?_
        refine g_aload_n (pc := 55) G dX9_lay_55 1 rfl ?_
        refine g_aload_n (pc := 56) G dX9_lay_56 0 rfl ?_
        obtain ⟨V33, e34, h⟩ := lt_e h
        refine g_putR (pc := 57) G ci_8 (uw_8 G.2.2.2.2.1) (k := 7) (by decide) rfl rfl k_this rfl (fun _ => ⟨rfl, rfl⟩) (q406 G.2.2.2.2.1) e34 dX9_lay_57 ?_
        refine g_aload_n (pc := 60) G dX9_lay_60 1 rfl ?_
        obtain ⟨r35, e36, h⟩ := bd_e h
        obtain ⟨f37, k38⟩ := ck_e e36
        refine g_getR (pc := 61) G ci_8 (uw_8 G.2.2.2.2.1) (k := 1) (by decide) rfl rfl k_this (q400 G.2.2.2.2.1) dX9_lay_61 f37 ?_
        obtain ⟨V40, e39, h⟩ := bd_e h
        refine g_callV (pc := 64) (As := []) (rest := []) (st2 := []) G (c_Ro_clear l D ca b k38 e39) (mb_Ro_clear G.2.2.2.2.1) (q447 G.2.2.2.2.1) (q448 G.2.2.2.2.1) (q446 G.2.2.2.2.1) ci_4 k38 rfl rfl (Nat.le_of_ble_eq_true rfl) ⟨Nat.le_trans (Nat.le_of_ble_eq_true rfl) hR.1, Nat.le_trans (Nat.le_of_ble_eq_true rfl) hR.2⟩ ⟨Nat.zero_le _, Nat.zero_le _⟩ rfl rfl dX9_lay_64 ?_
        refine g_aload_n (pc := 67) G dX9_lay_67 1 rfl ?_
        obtain ⟨r41, e42, h⟩ := bd_e h
        obtain ⟨f43, k44⟩ := ck_e e42
        refine g_getR (pc := 68) G ci_8 (uw_8 G.2.2.2.2.1) (k := 3) (by decide) rfl rfl k_this (q402 G.2.2.2.2.1) dX9_lay_68 f43 ?_
        obtain ⟨V46, e45, h⟩ := bd_e h
        refine g_callV (pc := 71) (As := []) (rest := []) (st2 := []) G (c_Hi_clear l D ca b k44 e45) (mb_Hi_clear G.2.2.2.2.1) (q451 G.2.2.2.2.1) (q452 G.2.2.2.2.1) (q450 G.2.2.2.2.1) ci_0 k44 rfl rfl (Nat.le_of_ble_eq_true rfl) ⟨Nat.le_trans (Nat.le_of_ble_eq_true rfl) hR.1, Nat.le_trans (Nat.le_of_ble_eq_true rfl) hR.2⟩ ⟨Nat.zero_le _, Nat.zero_le _⟩ rfl rfl dX9_lay_71 ?_
        refine g_aload_n (pc := 74) G dX9_lay_74 1 rfl ?_
        obtain ⟨r47, e48, h⟩ := bd_e h
        obtain ⟨f49, k50⟩ := ck_e e48
        refine g_getR (pc := 75) G ci_8 (uw_8 G.2.2.2.2.1) (k := 4) (by decide) rfl rfl k_this (q403 G.2.2.2.2.1) dX9_lay_75 f49 ?_
        obtain ⟨V52, e51, h⟩ := bd_e h
        refine g_callV (pc := 78) (As := []) (rest := []) (st2 := []) G (c_Sc_forget l D ca b k50 e51) (mb_Sc_forget G.2.2.2.2.1) (q455 G.2.2.2.2.1) (q456 G.2.2.2.2.1) (q454 G.2.2.2.2.1) ci_5 k50 rfl rfl (Nat.le_of_ble_eq_true rfl) ⟨Nat.le_trans (Nat.le_of_ble_eq_true rfl) hR.1, Nat.le_trans (Nat.le_of_ble_eq_true rfl) hR.2⟩ ⟨Nat.zero_le _, Nat.zero_le _⟩ rfl rfl dX9_lay_78 ?_
        refine g_aload_n (pc := 81) G dX9_lay_81 1 rfl ?_
        obtain ⟨r53, e54, h⟩ := bd_e h
        obtain ⟨f55, k56⟩ := ck_e e54
        refine g_getR (pc := 82) G ci_8 (uw_8 G.2.2.2.2.1) (k := 6) (by decide) rfl rfl k_this (q405 G.2.2.2.2.1) dX9_lay_82 f55 ?_
        refine g_getIN (pc := 85) G ci_2 (uw_2 G.2.2.2.2.1) (k := 2) (by decide) rfl rfl k56 (q303 G.2.2.2.2.1) dX9_lay_85 ?_
        cases h
        exact g_iret (pc := 88) G dX9_lay_88
      · rw [if_pos c22] at h
        refine g_bipush (pc := 39) G (v := (-2)) dX9_lay_39 (by decide) ?_
        cases h
        exact g_iret (pc := 41) G dX9_lay_41
  · rw [if_neg c12] at h
    refine g_bipush (pc := 16) G (v := (-2)) dX9_lay_16 (by decide) ?_
    cases h
    exact g_iret (pc := 18) G dX9_lay_18
theorem c_RS_lay (l : Launch) (D : va_G) (ca : Nat → ClassId) (b : Nat) {T : Tx} {V : Vx} {this : Nat} {rr : Int32} {Vf : Vx} (k_this : kd T this = 8) (h : RS_lay T V this = some (rr, Vf)) : MG l yX9_lay cX9_lay 2 (Option.some Jvm.ClassFile.FieldType.int) 5 118 0 0 D ca b [rv b (some this)] T V (some (.int rr)) T Vf :=
  MG.ofWG (L := [(0, rv b (some this))]) (by decide +kernel) rfl (Nat.le_of_ble_eq_true rfl) (fun _ _ _ _ _ _ _ G _ => w_RS_lay G ⟨Nat.le_refl _, Nat.le_refl _⟩ k_this h)
set_option maxHeartbeats 4000000 in
set_option maxRecDepth 100000 in
theorem w_RS_turn {p : Program} {l : Launch} {e : Env} {R : Room} {s : State} {m : MethodId} {args : Array Value} {below : List Frame} {meth : Method} {c : Code} {D : va_G} {ca : Nat → ClassId} {b : Nat} {T : Tx} {V : Vx} (G : GX p s m meth c cX9_turn 2 (Option.none : Option Jvm.ClassFile.FieldType) RX9 "turn" D ca b) (hR : 1 ≤ R.frames ∧ 20 ≤ R.locals) {this : Nat} {p1 : (Option Nat)}  {Vf : Vx} (k_this : kd T this = 8) (k_p1 : ∀ a, p1 = some a → kd T a = 6) (h : RS_turn T V this p1 = some Vf) : WG p l e R s m args below meth c D ca b 2 (QG D ca b none T Vf below args s 0 0) 0 0 T V 0 [(0, rv b (some this)), (1, rv b p1)] [] := by
  unfold RS_turn at h
  refine g_aload_n (pc := 0) G dX9_turn_0 1 rfl ?_
  cases p1 with
  | none =>
    dsimp only at h
    refine g_ifnullN (pc := 1) G 27 dX9_turn_1 (by decide) ?_
    cases h
    exact g_vret (pc := 27) G dX9_turn_27
  | some r1 =>
    dsimp only at h
    have k2 := k_p1 r1 rfl
    refine g_ifnullS (pc := 1) G dX9_turn_1 ?_
    refine g_aload_n (pc := 4) G dX9_turn_4 1 rfl ?_
    refine g_aload_n (pc := 5) G dX9_turn_5 1 rfl ?_
    refine g_getIN (pc := 6) G ci_6 (uw_6 G.2.2.2.2.1) (k := 3) (by decide) rfl rfl k2 (q266 G.2.2.2.2.1) dX9_turn_6 ?_
    obtain ⟨x3, hx5, h⟩ := bd_e h
    have K4 : WG p l e R s m args below meth c D ca b 2 (QG D ca b none T Vf below args s 0 0) 0 0 T V 17 [(0, rv b (some this))] [.int x3, rv b (some r1)] := by
      obtain ⟨z10, h⟩ := gd_e h
      obtain ⟨V8, e9, h⟩ := lt_e h
      refine g_putIN (pc := 17) G ci_6 (uw_6 G.2.2.2.2.1) (k := 3) (by decide) rfl rfl k2 rfl (zo_n z10) (q266 G.2.2.2.2.1) e9 dX9_turn_17 ?_
      refine g_aload_n (pc := 20) G dX9_turn_20 0 rfl ?_
      obtain ⟨r11, e12, h⟩ := bd_e h
      obtain ⟨f13, k14⟩ := ck_e e12
      refine g_getR (pc := 21) G ci_8 (uw_8 G.2.2.2.2.1) (k := 4) (by decide) rfl rfl k_this (q403 G.2.2.2.2.1) dX9_turn_21 f13 ?_
      obtain ⟨V16, e15, h⟩ := bd_e h
      refine g_callV (pc := 24) (As := []) (rest := []) (st2 := []) G (c_Sc_forget l D ca b k14 e15) (mb_Sc_forget G.2.2.2.2.1) (q455 G.2.2.2.2.1) (q456 G.2.2.2.2.1) (q454 G.2.2.2.2.1) ci_5 k14 rfl rfl (Nat.le_of_ble_eq_true rfl) ⟨Nat.le_trans (Nat.le_of_ble_eq_true rfl) hR.1, Nat.le_trans (Nat.le_of_ble_eq_true rfl) hR.2⟩ ⟨Nat.zero_le _, Nat.zero_le _⟩ rfl rfl dX9_turn_24 ?_
      cases h
      exact g_vret (pc := 27) G dX9_turn_27
    refine g_if_ne (pc := 9) G 16 dX9_turn_9 (by decide) (fun c7 => ?_) (fun c7 => ?_)
    · rw [if_neg c7] at hx5
      refine g_iconst (pc := 16) G (v := 0) dX9_turn_16 (by decide) ?_
      cases hx5
      exact g_sub [0] rfl K4
    · rw [if_pos c7] at hx5
      refine g_iconst (pc := 12) G (v := 1) dX9_turn_12 (by decide) ?_
      refine g_goto (pc := 13) G 17 dX9_turn_13 (by decide) ?_
      cases hx5
      exact g_sub [0] rfl K4
theorem c_RS_turn (l : Launch) (D : va_G) (ca : Nat → ClassId) (b : Nat) {T : Tx} {V : Vx} {this : Nat} {p1 : (Option Nat)}  {Vf : Vx} (k_this : kd T this = 8) (k_p1 : ∀ a, p1 = some a → kd T a = 6) (h : RS_turn T V this p1 = some Vf) : MG l yX9_turn cX9_turn 2 (Option.none : Option Jvm.ClassFile.FieldType) 1 20 0 0 D ca b [rv b (some this), rv b p1] T V none T Vf :=
  MG.ofWG (L := [(0, rv b (some this)), (1, rv b p1)]) (by decide +kernel) (by cases p1 <;> rfl) (by cases p1 <;> exact Nat.le_of_ble_eq_true rfl) (fun _ _ _ _ _ _ _ G _ => w_RS_turn G ⟨Nat.le_refl _, Nat.le_refl _⟩ k_this k_p1 h)
set_option maxHeartbeats 4000000 in
set_option maxRecDepth 100000 in
theorem w_RS_strike {p : Program} {l : Launch} {e : Env} {R : Room} {s : State} {m : MethodId} {args : Array Value} {below : List Frame} {meth : Method} {c : Code} {D : va_G} {ca : Nat → ClassId} {b : Nat} {T : Tx} {V : Vx} (G : GX p s m meth c cX9_strike 4 (Option.some Jvm.ClassFile.FieldType.int) RX9 "strike" D ca b) (hR : 2 ≤ R.frames ∧ 44 ≤ R.locals) {this : Nat} {p1 : Int32} {p2 : Int32} {rr : Int32} {Vf : Vx} (k_this : kd T this = 8) (h : RS_strike T V this p1 p2 = some (rr, Vf)) : WG p l e R s m args below meth c D ca b 4 (QG D ca b (some (.int rr)) T Vf below args s 0 0) 0 0 T V 0 [(0, rv b (some this)), (1, .int p1), (2, .int p2)] [] := by
  unfold RS_strike at h
  refine g_aload_n (pc := 0) G dX9_strike_0 0 rfl ?_
  obtain ⟨r1, e2, h⟩ := bd_e h
  obtain ⟨f3, k4⟩ := ck_e e2
  refine g_getR (pc := 1) G ci_8 (uw_8 G.2.2.2.2.1) (k := 6) (by decide) rfl rfl k_this (q405 G.2.2.2.2.1) dX9_strike_1 f3 ?_
  refine g_iload_n (pc := 4) G dX9_strike_4 1 rfl ?_
  obtain ⟨r6, e5, h⟩ := bd_e h
  refine g_callV (pc := 5) (As := [.int p1]) (rest := []) (st2 := [rv b r6]) G (c_Lx_signAt l D ca b k4 e5) (mb_Lx_signAt G.2.2.2.2.1) (q463 G.2.2.2.2.1) (q464 G.2.2.2.2.1) (q462 G.2.2.2.2.1) ci_2 k4 rfl rfl (Nat.le_of_ble_eq_true rfl) ⟨Nat.le_trans (Nat.le_of_ble_eq_true rfl) hR.1, Nat.le_trans (Nat.le_of_ble_eq_true rfl) hR.2⟩ ⟨Nat.zero_le _, Nat.zero_le _⟩ rfl rfl dX9_strike_5 ?_
  refine g_astore_n (L' := [(3, rv b r6), (0, rv b (some this)), (1, .int p1), (2, .int p2)]) (pc := 8) G dX9_strike_8 (by decide) rfl ?_
  refine g_aload_n (pc := 9) G dX9_strike_9 0 rfl ?_
  cases r6 with
  | none =>
    dsimp only at h
    refine g_ifnullN (pc := 10) G 22 dX9_strike_10 (by decide) ?_
    refine g_iconst (pc := 22) G (v := (-1)) dX9_strike_22 (by decide) ?_
    cases h
    exact g_iret (pc := 23) G dX9_strike_23
  | some r7 =>
    dsimp only at h
    refine g_ifnullS (pc := 10) G dX9_strike_10 ?_
    refine g_iload_n (pc := 13) G dX9_strike_13 3 rfl ?_
    refine g_if_lt (pc := 14) G 22 dX9_strike_14 (by decide) (fun c8 => ?_) (fun c8 => ?_)
    · rw [if_pos c8] at h
      refine g_iconst (pc := 22) G (v := (-1)) dX9_strike_22 (by decide) ?_
      cases h
      exact g_iret (pc := 23) G dX9_strike_23
    · rw [if_neg c8] at h
      refine g_iload_n (pc := 17) G dX9_strike_17 3 rfl ?_
      refine g_iconst (pc := 18) G (v := 1) dX9_strike_18 (by decide) ?_
      refine g_icmp_le (pc := 19) G 24 dX9_strike_19 (by decide) (fun c9 => ?_) (fun c9 => ?_)
      · rw [if_pos c9] at h
        refine g_aload_n (pc := 24) G dX9_strike_24 0 rfl ?_
        obtain ⟨r12, e11, h⟩ := bd_e h
        have k10 : kd T r7 = 6 := by
          obtain ⟨ee, k0⟩ := ck_e e11
          cases ee
          exact k0
        refine g_getIN (pc := 25) G ci_6 (uw_6 G.2.2.2.2.1) (k := 3) (by decide) rfl rfl k10 (q266 G.2.2.2.2.1) dX9_strike_25 ?_
        refine g_iload_n (pc := 28) G dX9_strike_28 3 rfl ?_
        refine g_iconst (pc := 29) G (v := 1) dX9_strike_29 (by decide) ?_
        obtain ⟨x13, hx15, h⟩ := bd_e h
        have K14 : WG p l e R s m args below meth c D ca b 4 (QG D ca b (some (.int rr)) T Vf below args s 0 0) 0 0 T V 38 [(0, rv b (some this)), (1, .int p1), (3, rv b (some r7))] [.int x13, .int (fI V 603 r7)] := by
          refine g_icmp_ne (pc := 38) G 44 dX9_strike_38 (by decide) (fun c18 => ?_) (fun c18 => ?_)
          · rw [if_neg c18] at h
            refine g_aload_n (pc := 44) G dX9_strike_44 0 rfl ?_
            refine g_aload_n (pc := 45) G dX9_strike_45 2 rfl ?_
            obtain ⟨V20, e19, h⟩ := bd_e h
            refine g_callV (pc := 46) (As := [rv b (some r7)]) (rest := []) (st2 := []) G (c_RS_turn l D ca b k_this (fun _ hh => by cases hh; exact k10) e19) (mb_RS_turn G.2.2.2.2.1) (q468 G.2.2.2.2.1) (q0 G.2.2.2.2.1) (q466 G.2.2.2.2.1) ci_8 k_this rfl rfl (Nat.le_of_ble_eq_true rfl) ⟨Nat.le_trans (Nat.le_of_ble_eq_true rfl) hR.1, Nat.le_trans (Nat.le_of_ble_eq_true rfl) hR.2⟩ ⟨Nat.zero_le _, Nat.zero_le _⟩ rfl rfl dX9_strike_46 ?_
            refine g_aload_n (pc := 49) G dX9_strike_49 0 rfl ?_
            obtain ⟨r21, e22, h⟩ := bd_e h
            obtain ⟨f23, k24⟩ := ck_e e22
            refine g_getR (pc := 50) G ci_8 (uw_8 G.2.2.2.2.1) (k := 3) (by decide) rfl rfl k_this (q402 G.2.2.2.2.1) dX9_strike_50 f23 ?_
            refine g_iconst (pc := 53) G (v := 0) dX9_strike_53 (by decide) ?_
            refine g_iload_n (pc := 54) G dX9_strike_54 1 rfl ?_
            obtain ⟨V26, e25, h⟩ := bd_e h
            refine g_callV (pc := 55) (As := [.int 0, .int p1]) (rest := []) (st2 := []) G (c_Hi_push l D ca b k24 e25) (mb_Hi_push G.2.2.2.2.1) (q471 G.2.2.2.2.1) (q472 G.2.2.2.2.1) (q470 G.2.2.2.2.1) ci_0 k24 rfl rfl (Nat.le_of_ble_eq_true rfl) ⟨Nat.le_trans (Nat.le_of_ble_eq_true rfl) hR.1, Nat.le_trans (Nat.le_of_ble_eq_true rfl) hR.2⟩ ⟨Nat.zero_le _, Nat.zero_le _⟩ rfl rfl dX9_strike_55 ?_
            refine g_aload_n (pc := 58) G dX9_strike_58 0 rfl ?_
            obtain ⟨r27, e28, h⟩ := bd_e h
            obtain ⟨f29, k30⟩ := ck_e e28
            refine g_getR (pc := 59) G ci_8 (uw_8 G.2.2.2.2.1) (k := 6) (by decide) rfl rfl k_this (q405 G.2.2.2.2.1) dX9_strike_59 f29 ?_
            obtain ⟨r32, e31, h⟩ := bd_e h
            refine g_callV (pc := 62) (As := []) (rest := []) (st2 := [.int r32]) G (c_Lx_struckSigns l D ca b k30 e31) (mb_Lx_struckSigns G.2.2.2.2.1) (q479 G.2.2.2.2.1) (q480 G.2.2.2.2.1) (q478 G.2.2.2.2.1) ci_2 k30 rfl rfl (Nat.le_of_ble_eq_true rfl) ⟨Nat.le_trans (Nat.le_of_ble_eq_true rfl) hR.1, Nat.le_trans (Nat.le_of_ble_eq_true rfl) hR.2⟩ ⟨Nat.zero_le _, Nat.zero_le _⟩ rfl rfl dX9_strike_62 ?_
            cases h
            exact g_iret (pc := 65) G dX9_strike_65
          · rw [if_pos c18] at h
            refine g_bipush (pc := 41) G (v := (-2)) dX9_strike_41 (by decide) ?_
            cases h
            exact g_iret (pc := 43) G dX9_strike_43
        refine g_icmp_ne (pc := 30) G 37 dX9_strike_30 (by decide) (fun c17 => ?_) (fun c17 => ?_)
        · rw [if_neg c17] at hx15
          refine g_iconst (pc := 37) G (v := 0) dX9_strike_37 (by decide) ?_
          cases hx15
          exact g_sub [1, 2, 0] rfl K14
        · rw [if_pos c17] at hx15
          refine g_iconst (pc := 33) G (v := 1) dX9_strike_33 (by decide) ?_
          refine g_goto (pc := 34) G 38 dX9_strike_34 (by decide) ?_
          cases hx15
          exact g_sub [1, 2, 0] rfl K14
      · rw [if_neg c9] at h
        refine g_iconst (pc := 22) G (v := (-1)) dX9_strike_22 (by decide) ?_
        cases h
        exact g_iret (pc := 23) G dX9_strike_23
theorem c_RS_strike (l : Launch) (D : va_G) (ca : Nat → ClassId) (b : Nat) {T : Tx} {V : Vx} {this : Nat} {p1 : Int32} {p2 : Int32} {rr : Int32} {Vf : Vx} (k_this : kd T this = 8) (h : RS_strike T V this p1 p2 = some (rr, Vf)) : MG l yX9_strike cX9_strike 4 (Option.some Jvm.ClassFile.FieldType.int) 2 44 0 0 D ca b [rv b (some this), .int p1, .int p2] T V (some (.int rr)) T Vf :=
  MG.ofWG (L := [(0, rv b (some this)), (1, .int p1), (2, .int p2)]) (by decide +kernel) rfl (Nat.le_of_ble_eq_true rfl) (fun _ _ _ _ _ _ _ G _ => w_RS_strike G ⟨Nat.le_refl _, Nat.le_refl _⟩ k_this h)
set_option maxHeartbeats 4000000 in
set_option maxRecDepth 100000 in
theorem w_RS_lawNumber {p : Program} {l : Launch} {e : Env} {R : Room} {s : State} {m : MethodId} {args : Array Value} {below : List Frame} {meth : Method} {c : Code} {D : va_G} {ca : Nat → ClassId} {b : Nat} {T : Tx} {V : Vx} (G : GX p s m meth c cX9_lawNumber 1 (Option.some Jvm.ClassFile.FieldType.int) RX9 "lawNumber" D ca b) (hR : 0 ≤ R.frames ∧ 0 ≤ R.locals) {this : Nat} {rr : Int32}  (k_this : kd T this = 8) (h : RS_lawNumber T V this = some rr) : WG p l e R s m args below meth c D ca b 1 (QG D ca b (some (.int rr)) T V below args s 0 0) 0 0 T V 0 [(0, rv b (some this))] [] := by
  unfold RS_lawNumber at h
  refine g_aload_n (pc := 0) G dX9_lawNumber_0 0 rfl ?_
  obtain ⟨r1, e2, h⟩ := bd_e h
  obtain ⟨f3, k4⟩ := ck_e e2
  refine g_getR (pc := 1) G ci_8 (uw_8 G.2.2.2.2.1) (k := 6) (by decide) rfl rfl k_this (q405 G.2.2.2.2.1) dX9_lawNumber_1 f3 ?_
  refine g_getIN (pc := 4) G ci_2 (uw_2 G.2.2.2.2.1) (k := 4) (by decide) rfl rfl k4 (q311 G.2.2.2.2.1) dX9_lawNumber_4 ?_
  refine g_if_eq (pc := 7) G 14 dX9_lawNumber_7 (by decide) (fun c5 => ?_) (fun c5 => ?_)
  · rw [if_pos c5] at h
    refine g_iconst (pc := 14) G (v := 0) dX9_lawNumber_14 (by decide) ?_
    cases h
    exact g_iret (pc := 15) G dX9_lawNumber_15
  · rw [if_neg c5] at h
    refine g_iconst (pc := 10) G (v := 1) dX9_lawNumber_10 (by decide) ?_
    refine g_goto (pc := 11) G 15 dX9_lawNumber_11 (by decide) ?_
    cases h
    exact g_iret (pc := 15) G dX9_lawNumber_15
theorem c_RS_lawNumber (l : Launch) (D : va_G) (ca : Nat → ClassId) (b : Nat) {T : Tx} {V : Vx} {this : Nat} {rr : Int32}  (k_this : kd T this = 8) (h : RS_lawNumber T V this = some rr) : MG l yX9_lawNumber cX9_lawNumber 1 (Option.some Jvm.ClassFile.FieldType.int) 0 0 0 0 D ca b [rv b (some this)] T V (some (.int rr)) T V :=
  MG.ofWG (L := [(0, rv b (some this))]) (by decide +kernel) rfl (Nat.le_of_ble_eq_true rfl) (fun _ _ _ _ _ _ _ G _ => w_RS_lawNumber G ⟨Nat.le_refl _, Nat.le_refl _⟩ k_this h)
set_option maxHeartbeats 4000000 in
set_option maxRecDepth 100000 in
theorem w_RS_turnLaw {p : Program} {l : Launch} {e : Env} {R : Room} {s : State} {m : MethodId} {args : Array Value} {below : List Frame} {meth : Method} {c : Code} {D : va_G} {ca : Nat → ClassId} {b : Nat} {T : Tx} {V : Vx} (G : GX p s m meth c cX9_turnLaw 1 (Option.none : Option Jvm.ClassFile.FieldType) RX9 "turnLaw" D ca b) (hR : 1 ≤ R.frames ∧ 20 ≤ R.locals) {this : Nat}  {Vf : Vx} (k_this : kd T this = 8) (h : RS_turnLaw T V this = some Vf) : WG p l e R s m args below meth c D ca b 1 (QG D ca b none T Vf below args s 0 0) 0 0 T V 0 [(0, rv b (some this))] [] := by
  unfold RS_turnLaw at h
  refine g_aload_n (pc := 0) G dX9_turnLaw_0 0 rfl ?_
  obtain ⟨r1, e2, h⟩ := bd_e h
  obtain ⟨f3, k4⟩ := ck_e e2
  refine g_getR (pc := 1) G ci_8 (uw_8 G.2.2.2.2.1) (k := 6) (by decide) rfl rfl k_this (q405 G.2.2.2.2.1) dX9_turnLaw_1 f3 ?_
  refine g_aload_n (pc := 4) G dX9_turnLaw_4 0 rfl ?_
  obtain ⟨r5, e6, h⟩ := bd_e h
  obtain ⟨f7, k8⟩ := ck_e e6
  refine g_getR (pc := 5) G ci_8 (uw_8 G.2.2.2.2.1) (k := 6) (by decide) rfl rfl k_this (q405 G.2.2.2.2.1) dX9_turnLaw_5 f7 ?_
  refine g_getIN (pc := 8) G ci_2 (uw_2 G.2.2.2.2.1) (k := 4) (by decide) rfl rfl k8 (q311 G.2.2.2.2.1) dX9_turnLaw_8 ?_
  obtain ⟨x9, hx11, h⟩ := bd_e h
  have K10 : WG p l e R s m args below meth c D ca b 1 (QG D ca b none T Vf below args s 0 0) 0 0 T V 19 [(0, rv b (some this))] [.int x9, rv b (some r1)] := by
    obtain ⟨z16, h⟩ := gd_e h
    obtain ⟨V14, e15, h⟩ := lt_e h
    refine g_putIN (pc := 19) G ci_2 (uw_2 G.2.2.2.2.1) (k := 4) (by decide) rfl rfl k4 rfl (zo_n z16) (q311 G.2.2.2.2.1) e15 dX9_turnLaw_19 ?_
    refine g_aload_n (pc := 22) G dX9_turnLaw_22 0 rfl ?_
    obtain ⟨r17, e18, h⟩ := bd_e h
    obtain ⟨f19, k20⟩ := ck_e e18
    refine g_getR (pc := 23) G ci_8 (uw_8 G.2.2.2.2.1) (k := 4) (by decide) rfl rfl k_this (q403 G.2.2.2.2.1) dX9_turnLaw_23 f19 ?_
    obtain ⟨V22, e21, h⟩ := bd_e h
    refine g_callV (pc := 26) (As := []) (rest := []) (st2 := []) G (c_Sc_forget l D ca b k20 e21) (mb_Sc_forget G.2.2.2.2.1) (q455 G.2.2.2.2.1) (q456 G.2.2.2.2.1) (q454 G.2.2.2.2.1) ci_5 k20 rfl rfl (Nat.le_of_ble_eq_true rfl) ⟨Nat.le_trans (Nat.le_of_ble_eq_true rfl) hR.1, Nat.le_trans (Nat.le_of_ble_eq_true rfl) hR.2⟩ ⟨Nat.zero_le _, Nat.zero_le _⟩ rfl rfl dX9_turnLaw_26 ?_
    cases h
    exact g_vret (pc := 29) G dX9_turnLaw_29
  refine g_if_ne (pc := 11) G 18 dX9_turnLaw_11 (by decide) (fun c13 => ?_) (fun c13 => ?_)
  · rw [if_neg c13] at hx11
    refine g_iconst (pc := 18) G (v := 0) dX9_turnLaw_18 (by decide) ?_
    cases hx11
    exact g_sub [0] rfl K10
  · rw [if_pos c13] at hx11
    refine g_iconst (pc := 14) G (v := 1) dX9_turnLaw_14 (by decide) ?_
    refine g_goto (pc := 15) G 19 dX9_turnLaw_15 (by decide) ?_
    cases hx11
    exact g_sub [0] rfl K10
theorem c_RS_turnLaw (l : Launch) (D : va_G) (ca : Nat → ClassId) (b : Nat) {T : Tx} {V : Vx} {this : Nat}  {Vf : Vx} (k_this : kd T this = 8) (h : RS_turnLaw T V this = some Vf) : MG l yX9_turnLaw cX9_turnLaw 1 (Option.none : Option Jvm.ClassFile.FieldType) 1 20 0 0 D ca b [rv b (some this)] T V none T Vf :=
  MG.ofWG (L := [(0, rv b (some this))]) (by decide +kernel) rfl (Nat.le_of_ble_eq_true rfl) (fun _ _ _ _ _ _ _ G _ => w_RS_turnLaw G ⟨Nat.le_refl _, Nat.le_refl _⟩ k_this h)
set_option maxHeartbeats 4000000 in
set_option maxRecDepth 100000 in
theorem w_RS_law {p : Program} {l : Launch} {e : Env} {R : Room} {s : State} {m : MethodId} {args : Array Value} {below : List Frame} {meth : Method} {c : Code} {D : va_G} {ca : Nat → ClassId} {b : Nat} {T : Tx} {V : Vx} (G : GX p s m meth c cX9_law 3 (Option.some Jvm.ClassFile.FieldType.int) RX9 "law" D ca b) (hR : 2 ≤ R.frames ∧ 43 ≤ R.locals) {this : Nat} {p1 : Int32} {rr : Int32} {Vf : Vx} (k_this : kd T this = 8) (h : RS_law T V this p1 = some (rr, Vf)) : WG p l e R s m args below meth c D ca b 3 (QG D ca b (some (.int rr)) T Vf below args s 0 0) 0 0 T V 0 [(0, rv b (some this)), (1, .int p1)] [] := by
  unfold RS_law at h
  refine g_iload_n (pc := 0) G dX9_law_0 1 rfl ?_
  refine g_if_lt (pc := 1) G 9 dX9_law_1 (by decide) (fun c1 => ?_) (fun c1 => ?_)
  · rw [if_pos c1] at h
    refine g_iconst (pc := 9) G (v := (-1)) dX9_law_9 (by decide) ?_
    cases h
    exact g_iret (pc := 10) G dX9_law_10
  · rw [if_neg c1] at h
    refine g_iload_n (pc := 4) G dX9_law_4 1 rfl ?_
    refine g_iconst (pc := 5) G (v := 1) dX9_law_5 (by decide) ?_
    refine g_icmp_le (pc := 6) G 11 dX9_law_6 (by decide) (fun c2 => ?_) (fun c2 => ?_)
    · rw [if_pos c2] at h
      refine g_aload_n (pc := 11) G dX9_law_11 0 rfl ?_
      obtain ⟨r3, e4, h⟩ := bd_e h
      obtain ⟨f5, k6⟩ := ck_e e4
      refine g_getR (pc := 12) G ci_8 (uw_8 G.2.2.2.2.1) (k := 6) (by decide) rfl rfl k_this (q405 G.2.2.2.2.1) dX9_law_12 f5 ?_
      refine g_getIN (pc := 15) G ci_2 (uw_2 G.2.2.2.2.1) (k := 4) (by decide) rfl rfl k6 (q311 G.2.2.2.2.1) dX9_law_15 ?_
      refine g_iload_n (pc := 18) G dX9_law_18 1 rfl ?_
      refine g_iconst (pc := 19) G (v := 1) dX9_law_19 (by decide) ?_
      obtain ⟨x7, hx9, h⟩ := bd_e h
      have K8 : WG p l e R s m args below meth c D ca b 3 (QG D ca b (some (.int rr)) T Vf below args s 0 0) 0 0 T V 28 [(0, rv b (some this))] [.int x7, .int (fI V 204 r3)] := by
        refine g_icmp_ne (pc := 28) G 34 dX9_law_28 (by decide) (fun c12 => ?_) (fun c12 => ?_)
        · rw [if_neg c12] at h
          refine g_aload_n (pc := 34) G dX9_law_34 0 rfl ?_
          obtain ⟨r14, e13, h⟩ := bd_e h
          refine g_callV (pc := 35) (As := []) (rest := []) (st2 := [.int r14]) G (c_RS_lawNumber l D ca b k_this e13) (mb_RS_lawNumber G.2.2.2.2.1) (q489 G.2.2.2.2.1) (q2 G.2.2.2.2.1) (q487 G.2.2.2.2.1) ci_8 k_this rfl rfl (Nat.le_of_ble_eq_true rfl) ⟨Nat.le_trans (Nat.le_of_ble_eq_true rfl) hR.1, Nat.le_trans (Nat.le_of_ble_eq_true rfl) hR.2⟩ ⟨Nat.zero_le _, Nat.zero_le _⟩ rfl rfl dX9_law_35 ?_
          refine g_istore_n (L' := [(2, .int r14), (0, rv b (some this))]) (pc := 38) G dX9_law_38 (by decide) rfl ?_
          refine g_aload_n (pc := 39) G dX9_law_39 1 rfl ?_
          obtain ⟨V16, e15, h⟩ := bd_e h
          refine g_callV (pc := 40) (As := []) (rest := []) (st2 := []) G (c_RS_turnLaw l D ca b k_this e15) (mb_RS_turnLaw G.2.2.2.2.1) (q493 G.2.2.2.2.1) (q3 G.2.2.2.2.1) (q491 G.2.2.2.2.1) ci_8 k_this rfl rfl (Nat.le_of_ble_eq_true rfl) ⟨Nat.le_trans (Nat.le_of_ble_eq_true rfl) hR.1, Nat.le_trans (Nat.le_of_ble_eq_true rfl) hR.2⟩ ⟨Nat.zero_le _, Nat.zero_le _⟩ rfl rfl dX9_law_40 ?_
          refine g_aload_n (pc := 43) G dX9_law_43 1 rfl ?_
          obtain ⟨r17, e18, h⟩ := bd_e h
          obtain ⟨f19, k20⟩ := ck_e e18
          refine g_getR (pc := 44) G ci_8 (uw_8 G.2.2.2.2.1) (k := 3) (by decide) rfl rfl k_this (q402 G.2.2.2.2.1) dX9_law_44 f19 ?_
          refine g_iconst (pc := 47) G (v := 1) dX9_law_47 (by decide) ?_
          refine g_iload_n (pc := 48) G dX9_law_48 0 rfl ?_
          obtain ⟨V22, e21, h⟩ := bd_e h
          refine g_callV (pc := 49) (As := [.int 1, .int r14]) (rest := []) (st2 := []) G (c_Hi_push l D ca b k20 e21) (mb_Hi_push G.2.2.2.2.1) (q471 G.2.2.2.2.1) (q472 G.2.2.2.2.1) (q470 G.2.2.2.2.1) ci_0 k20 rfl rfl (Nat.le_of_ble_eq_true rfl) ⟨Nat.le_trans (Nat.le_of_ble_eq_true rfl) hR.1, Nat.le_trans (Nat.le_of_ble_eq_true rfl) hR.2⟩ ⟨Nat.zero_le _, Nat.zero_le _⟩ rfl rfl dX9_law_49 ?_
          refine g_iload_n (pc := 52) G dX9_law_52 0 rfl ?_
          cases h
          exact g_iret (pc := 53) G dX9_law_53
        · rw [if_pos c12] at h
          refine g_bipush (pc := 31) G (v := (-2)) dX9_law_31 (by decide) ?_
          cases h
          exact g_iret (pc := 33) G dX9_law_33
      refine g_icmp_ne (pc := 20) G 27 dX9_law_20 (by decide) (fun c11 => ?_) (fun c11 => ?_)
      · rw [if_neg c11] at hx9
        refine g_iconst (pc := 27) G (v := 0) dX9_law_27 (by decide) ?_
        cases hx9
        exact g_sub [0] rfl K8
      · rw [if_pos c11] at hx9
        refine g_iconst (pc := 23) G (v := 1) dX9_law_23 (by decide) ?_
        refine g_goto (pc := 24) G 28 dX9_law_24 (by decide) ?_
        cases hx9
        exact g_sub [0] rfl K8
    · rw [if_neg c2] at h
      refine g_iconst (pc := 9) G (v := (-1)) dX9_law_9 (by decide) ?_
      cases h
      exact g_iret (pc := 10) G dX9_law_10
theorem c_RS_law (l : Launch) (D : va_G) (ca : Nat → ClassId) (b : Nat) {T : Tx} {V : Vx} {this : Nat} {p1 : Int32} {rr : Int32} {Vf : Vx} (k_this : kd T this = 8) (h : RS_law T V this p1 = some (rr, Vf)) : MG l yX9_law cX9_law 3 (Option.some Jvm.ClassFile.FieldType.int) 2 43 0 0 D ca b [rv b (some this), .int p1] T V (some (.int rr)) T Vf :=
  MG.ofWG (L := [(0, rv b (some this)), (1, .int p1)]) (by decide +kernel) rfl (Nat.le_of_ble_eq_true rfl) (fun _ _ _ _ _ _ _ G _ => w_RS_law G ⟨Nat.le_refl _, Nat.le_refl _⟩ k_this h)
set_option maxHeartbeats 4000000 in
set_option maxRecDepth 100000 in
theorem w_RS_carve {p : Program} {l : Launch} {e : Env} {R : Room} {s : State} {m : MethodId} {args : Array Value} {below : List Frame} {meth : Method} {c : Code} {D : va_G} {ca : Nat → ClassId} {b : Nat} {T : Tx} {V : Vx} (G : GX p s m meth c cX9_carve 2 (Option.some Jvm.ClassFile.FieldType.int) RX9 "carve" D ca b) (hR : 2 ≤ R.frames ∧ 43 ≤ R.locals) {this : Nat} {p1 : Int32} {rr : Int32} {Vf : Vx} (k_this : kd T this = 8) (h : RS_carve T V this p1 = some (rr, Vf)) : WG p l e R s m args below meth c D ca b 2 (QG D ca b (some (.int rr)) T Vf below args s 0 0) 0 0 T V 0 [(0, rv b (some this)), (1, .int p1)] [] := by
  unfold RS_carve at h
  refine g_aload_n (pc := 0) G dX9_carve_0 0 rfl ?_
  obtain ⟨r1, e2, h⟩ := bd_e h
  obtain ⟨f3, k4⟩ := ck_e e2
  refine g_getR (pc := 1) G ci_8 (uw_8 G.2.2.2.2.1) (k := 6) (by decide) rfl rfl k_this (q405 G.2.2.2.2.1) dX9_carve_1 f3 ?_
  refine g_iload_n (pc := 4) G dX9_carve_4 1 rfl ?_
  obtain ⟨r6, e5, h⟩ := bd_e h
  refine g_callV (pc := 5) (As := [.int p1]) (rest := []) (st2 := [rv b r6]) G (c_Lx_signAt l D ca b k4 e5) (mb_Lx_signAt G.2.2.2.2.1) (q463 G.2.2.2.2.1) (q464 G.2.2.2.2.1) (q462 G.2.2.2.2.1) ci_2 k4 rfl rfl (Nat.le_of_ble_eq_true rfl) ⟨Nat.le_trans (Nat.le_of_ble_eq_true rfl) hR.1, Nat.le_trans (Nat.le_of_ble_eq_true rfl) hR.2⟩ ⟨Nat.zero_le _, Nat.zero_le _⟩ rfl rfl dX9_carve_5 ?_
  cases r6 with
  | none =>
    dsimp only at h
    refine g_ifnonnullN (pc := 8) G dX9_carve_8 ?_
    refine g_iconst (pc := 11) G (v := (-1)) dX9_carve_11 (by decide) ?_
    cases h
    exact g_iret (pc := 12) G dX9_carve_12
  | some r7 =>
    dsimp only at h
    refine g_ifnonnullS (pc := 8) G 13 dX9_carve_8 (by decide) ?_
    refine g_aload_n (pc := 13) G dX9_carve_13 0 rfl ?_
    obtain ⟨r8, e9, h⟩ := bd_e h
    obtain ⟨f10, k11⟩ := ck_e e9
    refine g_getR (pc := 14) G ci_8 (uw_8 G.2.2.2.2.1) (k := 1) (by decide) rfl rfl k_this (q400 G.2.2.2.2.1) dX9_carve_14 f10 ?_
    obtain ⟨r13, e12, h⟩ := bd_e h
    refine g_callV (pc := 17) (As := []) (rest := []) (st2 := [.int r13]) G (c_Ro_isFull l D ca b k11 e12) (mb_Ro_isFull G.2.2.2.2.1) (q500 G.2.2.2.2.1) (q501 G.2.2.2.2.1) (q499 G.2.2.2.2.1) ci_4 k11 rfl rfl (Nat.le_of_ble_eq_true rfl) ⟨Nat.le_trans (Nat.le_of_ble_eq_true rfl) hR.1, Nat.le_trans (Nat.le_of_ble_eq_true rfl) hR.2⟩ ⟨Nat.zero_le _, Nat.zero_le _⟩ rfl rfl dX9_carve_17 ?_
    refine g_if_eq (pc := 20) G 26 dX9_carve_20 (by decide) (fun c14 => ?_) (fun c14 => ?_)
    · rw [if_pos c14] at h
      refine g_aload_n (pc := 26) G dX9_carve_26 0 rfl ?_
      obtain ⟨r15, e16, h⟩ := bd_e h
      obtain ⟨f17, k18⟩ := ck_e e16
      refine g_getR (pc := 27) G ci_8 (uw_8 G.2.2.2.2.1) (k := 1) (by decide) rfl rfl k_this (q400 G.2.2.2.2.1) dX9_carve_27 f17 ?_
      refine g_iload_n (pc := 30) G dX9_carve_30 1 rfl ?_
      obtain ⟨V20, e19, h⟩ := bd_e h
      refine g_callV (pc := 31) (As := [.int p1]) (rest := []) (st2 := []) G (c_Ro_put l D ca b k18 e19) (mb_Ro_put G.2.2.2.2.1) (q504 G.2.2.2.2.1) (q505 G.2.2.2.2.1) (q503 G.2.2.2.2.1) ci_4 k18 rfl rfl (Nat.le_of_ble_eq_true rfl) ⟨Nat.le_trans (Nat.le_of_ble_eq_true rfl) hR.1, Nat.le_trans (Nat.le_of_ble_eq_true rfl) hR.2⟩ ⟨Nat.zero_le _, Nat.zero_le _⟩ rfl rfl dX9_carve_31 ?_
      refine g_aload_n (pc := 34) G dX9_carve_34 0 rfl ?_
      obtain ⟨r21, e22, h⟩ := bd_e h
      obtain ⟨f23, k24⟩ := ck_e e22
      refine g_getR (pc := 35) G ci_8 (uw_8 G.2.2.2.2.1) (k := 3) (by decide) rfl rfl k_this (q402 G.2.2.2.2.1) dX9_carve_35 f23 ?_
      refine g_iconst (pc := 38) G (v := 2) dX9_carve_38 (by decide) ?_
      refine g_iload_n (pc := 39) G dX9_carve_39 1 rfl ?_
      obtain ⟨V26, e25, h⟩ := bd_e h
      refine g_callV (pc := 40) (As := [.int 2, .int p1]) (rest := []) (st2 := []) G (c_Hi_push l D ca b k24 e25) (mb_Hi_push G.2.2.2.2.1) (q471 G.2.2.2.2.1) (q472 G.2.2.2.2.1) (q470 G.2.2.2.2.1) ci_0 k24 rfl rfl (Nat.le_of_ble_eq_true rfl) ⟨Nat.le_trans (Nat.le_of_ble_eq_true rfl) hR.1, Nat.le_trans (Nat.le_of_ble_eq_true rfl) hR.2⟩ ⟨Nat.zero_le _, Nat.zero_le _⟩ rfl rfl dX9_carve_40 ?_
      refine g_aload_n (pc := 43) G dX9_carve_43 0 rfl ?_
      obtain ⟨r27, e28, h⟩ := bd_e h
      obtain ⟨f29, k30⟩ := ck_e e28
      refine g_getR (pc := 44) G ci_8 (uw_8 G.2.2.2.2.1) (k := 1) (by decide) rfl rfl k_this (q400 G.2.2.2.2.1) dX9_carve_44 f29 ?_
      obtain ⟨r32, e31, h⟩ := bd_e h
      refine g_callV (pc := 47) (As := []) (rest := []) (st2 := [.int r32]) G (c_Ro_size l D ca b k30 e31) (mb_Ro_size G.2.2.2.2.1) (q508 G.2.2.2.2.1) (q509 G.2.2.2.2.1) (q507 G.2.2.2.2.1) ci_4 k30 rfl rfl (Nat.le_of_ble_eq_true rfl) ⟨Nat.le_trans (Nat.le_of_ble_eq_true rfl) hR.1, Nat.le_trans (Nat.le_of_ble_eq_true rfl) hR.2⟩ ⟨Nat.zero_le _, Nat.zero_le _⟩ rfl rfl dX9_carve_47 ?_
      cases h
      exact g_iret (pc := 50) G dX9_carve_50
    · rw [if_neg c14] at h
      refine g_bipush (pc := 23) G (v := (-3)) dX9_carve_23 (by decide) ?_
      cases h
      exact g_iret (pc := 25) G dX9_carve_25
theorem c_RS_carve (l : Launch) (D : va_G) (ca : Nat → ClassId) (b : Nat) {T : Tx} {V : Vx} {this : Nat} {p1 : Int32} {rr : Int32} {Vf : Vx} (k_this : kd T this = 8) (h : RS_carve T V this p1 = some (rr, Vf)) : MG l yX9_carve cX9_carve 2 (Option.some Jvm.ClassFile.FieldType.int) 2 43 0 0 D ca b [rv b (some this), .int p1] T V (some (.int rr)) T Vf :=
  MG.ofWG (L := [(0, rv b (some this)), (1, .int p1)]) (by decide +kernel) rfl (Nat.le_of_ble_eq_true rfl) (fun _ _ _ _ _ _ _ G _ => w_RS_carve G ⟨Nat.le_refl _, Nat.le_refl _⟩ k_this h)
set_option maxHeartbeats 4000000 in
set_option maxRecDepth 100000 in
theorem w_RS_chip {p : Program} {l : Launch} {e : Env} {R : Room} {s : State} {m : MethodId} {args : Array Value} {below : List Frame} {meth : Method} {c : Code} {D : va_G} {ca : Nat → ClassId} {b : Nat} {T : Tx} {V : Vx} (G : GX p s m meth c cX9_chip 2 (Option.some Jvm.ClassFile.FieldType.int) RX9 "chip" D ca b) (hR : 2 ≤ R.frames ∧ 43 ≤ R.locals) {this : Nat} {rr : Int32} {Vf : Vx} (k_this : kd T this = 8) (h : RS_chip T V this = some (rr, Vf)) : WG p l e R s m args below meth c D ca b 2 (QG D ca b (some (.int rr)) T Vf below args s 0 0) 0 0 T V 0 [(0, rv b (some this))] [] := by
  unfold RS_chip at h
  refine g_aload_n (pc := 0) G dX9_chip_0 0 rfl ?_
  obtain ⟨r1, e2, h⟩ := bd_e h
  obtain ⟨f3, k4⟩ := ck_e e2
  refine g_getR (pc := 1) G ci_8 (uw_8 G.2.2.2.2.1) (k := 1) (by decide) rfl rfl k_this (q400 G.2.2.2.2.1) dX9_chip_1 f3 ?_
  obtain ⟨r6, e5, h⟩ := bd_e h
  refine g_callV (pc := 4) (As := []) (rest := []) (st2 := [.int r6]) G (c_Ro_size l D ca b k4 e5) (mb_Ro_size G.2.2.2.2.1) (q508 G.2.2.2.2.1) (q509 G.2.2.2.2.1) (q507 G.2.2.2.2.1) ci_4 k4 rfl rfl (Nat.le_of_ble_eq_true rfl) ⟨Nat.le_trans (Nat.le_of_ble_eq_true rfl) hR.1, Nat.le_trans (Nat.le_of_ble_eq_true rfl) hR.2⟩ ⟨Nat.zero_le _, Nat.zero_le _⟩ rfl rfl dX9_chip_4 ?_
  refine g_if_ne (pc := 7) G 13 dX9_chip_7 (by decide) (fun c7 => ?_) (fun c7 => ?_)
  · rw [if_neg c7] at h
    refine g_aload_n (pc := 13) G dX9_chip_13 0 rfl ?_
    obtain ⟨r8, e9, h⟩ := bd_e h
    obtain ⟨f10, k11⟩ := ck_e e9
    refine g_getR (pc := 14) G ci_8 (uw_8 G.2.2.2.2.1) (k := 1) (by decide) rfl rfl k_this (q400 G.2.2.2.2.1) dX9_chip_14 f10 ?_
    obtain ⟨r14, V13, e12, h⟩ := bd2_e h
    refine g_callV (pc := 17) (As := []) (rest := []) (st2 := [.int r14]) G (c_Ro_drop l D ca b k11 e12) (mb_Ro_drop G.2.2.2.2.1) (q516 G.2.2.2.2.1) (q517 G.2.2.2.2.1) (q515 G.2.2.2.2.1) ci_4 k11 rfl rfl (Nat.le_of_ble_eq_true rfl) ⟨Nat.le_trans (Nat.le_of_ble_eq_true rfl) hR.1, Nat.le_trans (Nat.le_of_ble_eq_true rfl) hR.2⟩ ⟨Nat.zero_le _, Nat.zero_le _⟩ rfl rfl dX9_chip_17 ?_
    refine g_istore_n (L' := [(1, .int r14), (0, rv b (some this))]) (pc := 20) G dX9_chip_20 (by decide) rfl ?_
    refine g_aload_n (pc := 21) G dX9_chip_21 1 rfl ?_
    obtain ⟨r15, e16, h⟩ := bd_e h
    obtain ⟨f17, k18⟩ := ck_e e16
    refine g_getR (pc := 22) G ci_8 (uw_8 G.2.2.2.2.1) (k := 3) (by decide) rfl rfl k_this (q402 G.2.2.2.2.1) dX9_chip_22 f17 ?_
    refine g_iconst (pc := 25) G (v := 3) dX9_chip_25 (by decide) ?_
    refine g_iload_n (pc := 26) G dX9_chip_26 0 rfl ?_
    obtain ⟨V20, e19, h⟩ := bd_e h
    refine g_callV (pc := 27) (As := [.int 3, .int r14]) (rest := []) (st2 := []) G (c_Hi_push l D ca b k18 e19) (mb_Hi_push G.2.2.2.2.1) (q471 G.2.2.2.2.1) (q472 G.2.2.2.2.1) (q470 G.2.2.2.2.1) ci_0 k18 rfl rfl (Nat.le_of_ble_eq_true rfl) ⟨Nat.le_trans (Nat.le_of_ble_eq_true rfl) hR.1, Nat.le_trans (Nat.le_of_ble_eq_true rfl) hR.2⟩ ⟨Nat.zero_le _, Nat.zero_le _⟩ rfl rfl dX9_chip_27 ?_
    refine g_iload_n (pc := 30) G dX9_chip_30 0 rfl ?_
    cases h
    exact g_iret (pc := 31) G dX9_chip_31
  · rw [if_pos c7] at h
    refine g_bipush (pc := 10) G (v := (-2)) dX9_chip_10 (by decide) ?_
    cases h
    exact g_iret (pc := 12) G dX9_chip_12
theorem c_RS_chip (l : Launch) (D : va_G) (ca : Nat → ClassId) (b : Nat) {T : Tx} {V : Vx} {this : Nat} {rr : Int32} {Vf : Vx} (k_this : kd T this = 8) (h : RS_chip T V this = some (rr, Vf)) : MG l yX9_chip cX9_chip 2 (Option.some Jvm.ClassFile.FieldType.int) 2 43 0 0 D ca b [rv b (some this)] T V (some (.int rr)) T Vf :=
  MG.ofWG (L := [(0, rv b (some this))]) (by decide +kernel) rfl (Nat.le_of_ble_eq_true rfl) (fun _ _ _ _ _ _ _ G _ => w_RS_chip G ⟨Nat.le_refl _, Nat.le_refl _⟩ k_this h)
set_option maxHeartbeats 4000000 in
set_option maxRecDepth 100000 in
theorem w_RS_undo {p : Program} {l : Launch} {e : Env} {R : Room} {s : State} {m : MethodId} {args : Array Value} {below : List Frame} {meth : Method} {c : Code} {D : va_G} {ca : Nat → ClassId} {b : Nat} {T : Tx} {V : Vx} (G : GX p s m meth c cX9_undo 2 (Option.some Jvm.ClassFile.FieldType.int) RX9 "undo" D ca b) (hR : 2 ≤ R.frames ∧ 42 ≤ R.locals) {this : Nat} {rr : Int32} {Vf : Vx} (k_this : kd T this = 8) (h : RS_undo T V this = some (rr, Vf)) : WG p l e R s m args below meth c D ca b 2 (QG D ca b (some (.int rr)) T Vf below args s 0 0) 0 0 T V 0 [(0, rv b (some this))] [] := by
  unfold RS_undo at h
  refine g_aload_n (pc := 0) G dX9_undo_0 0 rfl ?_
  obtain ⟨r1, e2, h⟩ := bd_e h
  obtain ⟨f3, k4⟩ := ck_e e2
  refine g_getR (pc := 1) G ci_8 (uw_8 G.2.2.2.2.1) (k := 3) (by decide) rfl rfl k_this (q402 G.2.2.2.2.1) dX9_undo_1 f3 ?_
  obtain ⟨r6, e5, h⟩ := bd_e h
  refine g_callV (pc := 4) (As := []) (rest := []) (st2 := [.int r6]) G (c_Hi_size l D ca b k4 e5) (mb_Hi_size G.2.2.2.2.1) (q528 G.2.2.2.2.1) (q529 G.2.2.2.2.1) (q527 G.2.2.2.2.1) ci_0 k4 rfl rfl (Nat.le_of_ble_eq_true rfl) ⟨Nat.le_trans (Nat.le_of_ble_eq_true rfl) hR.1, Nat.le_trans (Nat.le_of_ble_eq_true rfl) hR.2⟩ ⟨Nat.zero_le _, Nat.zero_le _⟩ rfl rfl dX9_undo_4 ?_
  refine g_if_ne (pc := 7) G 13 dX9_undo_7 (by decide) (fun c7 => ?_) (fun c7 => ?_)
  · rw [if_neg c7] at h
    refine g_aload_n (pc := 13) G dX9_undo_13 0 rfl ?_
    obtain ⟨r8, e9, h⟩ := bd_e h
    obtain ⟨f10, k11⟩ := ck_e e9
    refine g_getR (pc := 14) G ci_8 (uw_8 G.2.2.2.2.1) (k := 3) (by decide) rfl rfl k_this (q402 G.2.2.2.2.1) dX9_undo_14 f10 ?_
    obtain ⟨r13, e12, h⟩ := bd_e h
    refine g_callV (pc := 17) (As := []) (rest := []) (st2 := [.int r13]) G (c_Hi_lastValue l D ca b k11 e12) (mb_Hi_lastValue G.2.2.2.2.1) (q532 G.2.2.2.2.1) (q533 G.2.2.2.2.1) (q531 G.2.2.2.2.1) ci_0 k11 rfl rfl (Nat.le_of_ble_eq_true rfl) ⟨Nat.le_trans (Nat.le_of_ble_eq_true rfl) hR.1, Nat.le_trans (Nat.le_of_ble_eq_true rfl) hR.2⟩ ⟨Nat.zero_le _, Nat.zero_le _⟩ rfl rfl dX9_undo_17 ?_
    refine g_istore_n (L' := [(1, .int r13), (0, rv b (some this))]) (pc := 20) G dX9_undo_20 (by decide) rfl ?_
    refine g_aload_n (pc := 21) G dX9_undo_21 1 rfl ?_
    obtain ⟨r14, e15, h⟩ := bd_e h
    obtain ⟨f16, k17⟩ := ck_e e15
    refine g_getR (pc := 22) G ci_8 (uw_8 G.2.2.2.2.1) (k := 3) (by decide) rfl rfl k_this (q402 G.2.2.2.2.1) dX9_undo_22 f16 ?_
    obtain ⟨r19, e18, h⟩ := bd_e h
    refine g_callV (pc := 25) (As := []) (rest := []) (st2 := [.int r19]) G (c_Hi_lastKind l D ca b k17 e18) (mb_Hi_lastKind G.2.2.2.2.1) (q536 G.2.2.2.2.1) (q537 G.2.2.2.2.1) (q535 G.2.2.2.2.1) ci_0 k17 rfl rfl (Nat.le_of_ble_eq_true rfl) ⟨Nat.le_trans (Nat.le_of_ble_eq_true rfl) hR.1, Nat.le_trans (Nat.le_of_ble_eq_true rfl) hR.2⟩ ⟨Nat.zero_le _, Nat.zero_le _⟩ rfl rfl dX9_undo_25 ?_
    obtain ⟨V20, hx22, h⟩ := bd_e h
    have K21 : WG p l e R s m args below meth c D ca b 2 (QG D ca b (some (.int rr)) T Vf below args s 0 0) 0 0 T V20 97 [(0, rv b (some this))] [] := by
      refine g_aload_n (pc := 97) G dX9_undo_97 0 rfl ?_
      obtain ⟨r55, e56, h⟩ := bd_e h
      obtain ⟨f57, k58⟩ := ck_e e56
      refine g_getR (pc := 98) G ci_8 (uw_8 G.2.2.2.2.1) (k := 3) (by decide) rfl rfl k_this (q402 G.2.2.2.2.1) dX9_undo_98 f57 ?_
      obtain ⟨V60, e59, h⟩ := bd_e h
      refine g_callV (pc := 101) (As := []) (rest := []) (st2 := []) G (c_Hi_drop l D ca b k58 e59) (mb_Hi_drop G.2.2.2.2.1) (q540 G.2.2.2.2.1) (q541 G.2.2.2.2.1) (q539 G.2.2.2.2.1) ci_0 k58 rfl rfl (Nat.le_of_ble_eq_true rfl) ⟨Nat.le_trans (Nat.le_of_ble_eq_true rfl) hR.1, Nat.le_trans (Nat.le_of_ble_eq_true rfl) hR.2⟩ ⟨Nat.zero_le _, Nat.zero_le _⟩ rfl rfl dX9_undo_101 ?_
      refine g_aload_n (pc := 104) G dX9_undo_104 0 rfl ?_
      obtain ⟨r61, e62, h⟩ := bd_e h
      obtain ⟨f63, k64⟩ := ck_e e62
      refine g_getR (pc := 105) G ci_8 (uw_8 G.2.2.2.2.1) (k := 3) (by decide) rfl rfl k_this (q402 G.2.2.2.2.1) dX9_undo_105 f63 ?_
      obtain ⟨r66, e65, h⟩ := bd_e h
      refine g_callV (pc := 108) (As := []) (rest := []) (st2 := [.int r66]) G (c_Hi_size l D ca b k64 e65) (mb_Hi_size G.2.2.2.2.1) (q528 G.2.2.2.2.1) (q529 G.2.2.2.2.1) (q527 G.2.2.2.2.1) ci_0 k64 rfl rfl (Nat.le_of_ble_eq_true rfl) ⟨Nat.le_trans (Nat.le_of_ble_eq_true rfl) hR.1, Nat.le_trans (Nat.le_of_ble_eq_true rfl) hR.2⟩ ⟨Nat.zero_le _, Nat.zero_le _⟩ rfl rfl dX9_undo_108 ?_
      cases h
      exact g_iret (pc := 111) G dX9_undo_111
    by_cases c24 : r19 = 0
    · rw [if_pos c24] at hx22
      have K34 : WG p l e R s m args below meth c D ca b 2 (QG D ca b (some (.int rr)) T Vf below args s 0 0) 0 0 T V 56 [(1, .int r13), (0, rv b (some this))] [] := by
        refine g_aload_n (pc := 56) G dX9_undo_56 1 rfl ?_
        refine g_aload_n (pc := 57) G dX9_undo_57 1 rfl ?_
        obtain ⟨r25, e26, hx22⟩ := bd_e hx22
        obtain ⟨f27, k28⟩ := ck_e e26
        refine g_getR (pc := 58) G ci_8 (uw_8 G.2.2.2.2.1) (k := 6) (by decide) rfl rfl k_this (q405 G.2.2.2.2.1) dX9_undo_58 f27 ?_
        refine g_iload_n (pc := 61) G dX9_undo_61 0 rfl ?_
        obtain ⟨r30, e29, hx22⟩ := bd_e hx22
        refine g_callV (pc := 62) (As := [.int r13]) (rest := [rv b (some this)]) (st2 := [rv b r30, rv b (some this)]) G (c_Lx_signAt l D ca b k28 e29) (mb_Lx_signAt G.2.2.2.2.1) (q463 G.2.2.2.2.1) (q464 G.2.2.2.2.1) (q462 G.2.2.2.2.1) ci_2 k28 rfl rfl (Nat.le_of_ble_eq_true rfl) ⟨Nat.le_trans (Nat.le_of_ble_eq_true rfl) hR.1, Nat.le_trans (Nat.le_of_ble_eq_true rfl) hR.2⟩ ⟨Nat.zero_le _, Nat.zero_le _⟩ rfl rfl dX9_undo_62 ?_
        obtain ⟨z31, hx22⟩ := gd_e hx22
        obtain ⟨V33, e32, hx22⟩ := bd_e hx22
        refine g_callV (pc := 65) (As := [rv b r30]) (rest := []) (st2 := []) G (c_RS_turn l D ca b k_this (cko_e z31) e32) (mb_RS_turn G.2.2.2.2.1) (q468 G.2.2.2.2.1) (q0 G.2.2.2.2.1) (q466 G.2.2.2.2.1) ci_8 k_this rfl rfl (Nat.le_of_ble_eq_true rfl) ⟨Nat.le_trans (Nat.le_of_ble_eq_true rfl) hR.1, Nat.le_trans (Nat.le_of_ble_eq_true rfl) hR.2⟩ ⟨Nat.zero_le _, Nat.zero_le _⟩ rfl rfl dX9_undo_65 ?_
        refine g_goto (pc := 68) G 97 dX9_undo_68 (by decide) ?_
        cases hx22
        exact g_sub [1] rfl K21
      exact g_tabI (pc := 28) G 56 dX9_undo_28 (by rw [c24] <;> decide) (by rw [c24] <;> decide) (by rw [c24] <;> rfl) (by decide) K34
    · rw [if_neg c24] at hx22
      by_cases c35 : r19 = 1
      · rw [if_pos c35] at hx22
        have K38 : WG p l e R s m args below meth c D ca b 2 (QG D ca b (some (.int rr)) T Vf below args s 0 0) 0 0 T V 71 [(1, .int r13), (0, rv b (some this))] [] := by
          refine g_aload_n (pc := 71) G dX9_undo_71 1 rfl ?_
          obtain ⟨V37, e36, hx22⟩ := bd_e hx22
          refine g_callV (pc := 72) (As := []) (rest := []) (st2 := []) G (c_RS_turnLaw l D ca b k_this e36) (mb_RS_turnLaw G.2.2.2.2.1) (q493 G.2.2.2.2.1) (q3 G.2.2.2.2.1) (q491 G.2.2.2.2.1) ci_8 k_this rfl rfl (Nat.le_of_ble_eq_true rfl) ⟨Nat.le_trans (Nat.le_of_ble_eq_true rfl) hR.1, Nat.le_trans (Nat.le_of_ble_eq_true rfl) hR.2⟩ ⟨Nat.zero_le _, Nat.zero_le _⟩ rfl rfl dX9_undo_72 ?_
          refine g_goto (pc := 75) G 97 dX9_undo_75 (by decide) ?_
          cases hx22
          exact g_sub [1] rfl K21
        exact g_tabI (pc := 28) G 71 dX9_undo_28 (by rw [c35] <;> decide) (by rw [c35] <;> decide) (by rw [c35] <;> rfl) (by decide) K38
      · rw [if_neg c35] at hx22
        by_cases c39 : r19 = 2
        · rw [if_pos c39] at hx22
          have K47 : WG p l e R s m args below meth c D ca b 2 (QG D ca b (some (.int rr)) T Vf below args s 0 0) 0 0 T V 78 [(1, .int r13), (0, rv b (some this))] [] := by
            refine g_aload_n (pc := 78) G dX9_undo_78 1 rfl ?_
            obtain ⟨r40, e41, hx22⟩ := bd_e hx22
            obtain ⟨f42, k43⟩ := ck_e e41
            refine g_getR (pc := 79) G ci_8 (uw_8 G.2.2.2.2.1) (k := 1) (by decide) rfl rfl k_this (q400 G.2.2.2.2.1) dX9_undo_79 f42 ?_
            obtain ⟨r46, V45, e44, hx22⟩ := bd2_e hx22
            refine g_callV (pc := 82) (As := []) (rest := []) (st2 := [.int r46]) G (c_Ro_drop l D ca b k43 e44) (mb_Ro_drop G.2.2.2.2.1) (q516 G.2.2.2.2.1) (q517 G.2.2.2.2.1) (q515 G.2.2.2.2.1) ci_4 k43 rfl rfl (Nat.le_of_ble_eq_true rfl) ⟨Nat.le_trans (Nat.le_of_ble_eq_true rfl) hR.1, Nat.le_trans (Nat.le_of_ble_eq_true rfl) hR.2⟩ ⟨Nat.zero_le _, Nat.zero_le _⟩ rfl rfl dX9_undo_82 ?_
            refine g_pop (pc := 85) G dX9_undo_85 rfl ?_
            refine g_goto (pc := 86) G 97 dX9_undo_86 (by decide) ?_
            cases hx22
            exact g_sub [1] rfl K21
          exact g_tabI (pc := 28) G 78 dX9_undo_28 (by rw [c39] <;> decide) (by rw [c39] <;> decide) (by rw [c39] <;> rfl) (by decide) K47
        · rw [if_neg c39] at hx22
          have K54 : WG p l e R s m args below meth c D ca b 2 (QG D ca b (some (.int rr)) T Vf below args s 0 0) 0 0 T V 89 [(1, .int r13), (0, rv b (some this))] [] := by
            refine g_aload_n (pc := 89) G dX9_undo_89 1 rfl ?_
            obtain ⟨r48, e49, hx22⟩ := bd_e hx22
            obtain ⟨f50, k51⟩ := ck_e e49
            refine g_getR (pc := 90) G ci_8 (uw_8 G.2.2.2.2.1) (k := 1) (by decide) rfl rfl k_this (q400 G.2.2.2.2.1) dX9_undo_90 f50 ?_
            refine g_iload_n (pc := 93) G dX9_undo_93 0 rfl ?_
            obtain ⟨V53, e52, hx22⟩ := bd_e hx22
            refine g_callV (pc := 94) (As := [.int r13]) (rest := []) (st2 := []) G (c_Ro_put l D ca b k51 e52) (mb_Ro_put G.2.2.2.2.1) (q504 G.2.2.2.2.1) (q505 G.2.2.2.2.1) (q503 G.2.2.2.2.1) ci_4 k51 rfl rfl (Nat.le_of_ble_eq_true rfl) ⟨Nat.le_trans (Nat.le_of_ble_eq_true rfl) hR.1, Nat.le_trans (Nat.le_of_ble_eq_true rfl) hR.2⟩ ⟨Nat.zero_le _, Nat.zero_le _⟩ rfl rfl dX9_undo_94 ?_
            cases hx22
            exact g_sub [1] rfl K21
          have c24T := lv_neT (a := 0) c24 (by decide)
          have c35T := lv_neT (a := 1) c35 (by decide)
          have c39T := lv_neT (a := 2) c39 (by decide)
          exact g_tabO (pc := 28) G 89 dX9_undo_28 (by omega) (by decide) K54
  · rw [if_pos c7] at h
    refine g_bipush (pc := 10) G (v := (-2)) dX9_undo_10 (by decide) ?_
    cases h
    exact g_iret (pc := 12) G dX9_undo_12
theorem c_RS_undo (l : Launch) (D : va_G) (ca : Nat → ClassId) (b : Nat) {T : Tx} {V : Vx} {this : Nat} {rr : Int32} {Vf : Vx} (k_this : kd T this = 8) (h : RS_undo T V this = some (rr, Vf)) : MG l yX9_undo cX9_undo 2 (Option.some Jvm.ClassFile.FieldType.int) 2 42 0 0 D ca b [rv b (some this)] T V (some (.int rr)) T Vf :=
  MG.ofWG (L := [(0, rv b (some this))]) (by decide +kernel) rfl (Nat.le_of_ble_eq_true rfl) (fun _ _ _ _ _ _ _ G _ => w_RS_undo G ⟨Nat.le_refl _, Nat.le_refl _⟩ k_this h)
set_option maxHeartbeats 4000000 in
set_option maxRecDepth 100000 in
theorem w_RS_leastWritingsWith {p : Program} {l : Launch} {e : Env} {R : Room} {s : State} {m : MethodId} {args : Array Value} {below : List Frame} {meth : Method} {c : Code} {D : va_G} {ca : Nat → ClassId} {b : Nat} {T : Tx} {V : Vx} (G : GX p s m meth c cX9_leastWritingsWith 5 (Option.some Jvm.ClassFile.FieldType.int) RX9 "leastWritingsWith" D ca b) (hR : 5 ≤ R.frames ∧ 125 ≤ R.locals) {this : Nat} {p1 : Int32} {rr : Int32} {Vf : Vx} (k_this : kd T this = 8) (h : RS_leastWritingsWith T V this p1 = some (rr, Vf)) : WG p l e R s m args below meth c D ca b 5 (QG D ca b (some (.int rr)) T Vf below args s 0 0) 0 0 T V 0 [(0, rv b (some this)), (1, .int p1)] [] := by
  unfold RS_leastWritingsWith at h
  refine g_aload_n (pc := 0) G dX9_leastWritingsWith_0 0 rfl ?_
  obtain ⟨r1, e2, h⟩ := bd_e h
  obtain ⟨f3, k4⟩ := ck_e e2
  refine g_getR (pc := 1) G ci_8 (uw_8 G.2.2.2.2.1) (k := 4) (by decide) rfl rfl k_this (q403 G.2.2.2.2.1) dX9_leastWritingsWith_1 f3 ?_
  refine g_aload_n (pc := 4) G dX9_leastWritingsWith_4 0 rfl ?_
  obtain ⟨r5, e6, h⟩ := bd_e h
  obtain ⟨f7, k8⟩ := ck_e e6
  refine g_getR (pc := 5) G ci_8 (uw_8 G.2.2.2.2.1) (k := 6) (by decide) rfl rfl k_this (q405 G.2.2.2.2.1) dX9_leastWritingsWith_5 f7 ?_
  obtain ⟨V10, e9, h⟩ := bd_e h
  refine g_callV (pc := 8) (As := [rv b (some r5)]) (rest := []) (st2 := []) G (c_Sc_settle l D ca b k4 k8 e9) (mb_Sc_settle G.2.2.2.2.1) (q552 G.2.2.2.2.1) (q553 G.2.2.2.2.1) (q551 G.2.2.2.2.1) ci_5 k4 rfl rfl (Nat.le_of_ble_eq_true rfl) ⟨Nat.le_trans (Nat.le_of_ble_eq_true rfl) hR.1, Nat.le_trans (Nat.le_of_ble_eq_true rfl) hR.2⟩ ⟨Nat.zero_le _, Nat.zero_le _⟩ rfl rfl dX9_leastWritingsWith_8 ?_
  refine g_iconst (pc := 11) G (v := 0) dX9_leastWritingsWith_11 (by decide) ?_
  refine g_istore_n (L' := [(2, .int 0), (0, rv b (some this)), (1, .int p1)]) (pc := 12) G dX9_leastWritingsWith_12 (by decide) rfl ?_
  refine g_iconst (pc := 13) G (v := 0) dX9_leastWritingsWith_13 (by decide) ?_
  refine g_istore_n (L' := [(3, .int 0), (2, .int 0), (0, rv b (some this)), (1, .int p1)]) (pc := 14) G dX9_leastWritingsWith_14 (by decide) rfl ?_
  have LP15 : ∀ (n11 : Nat) (v12 : Int32) (v13 : Int32), RS_leastWritingsWith_L15 T V10 this p1 n11 v12 v13 = some (rr, Vf) → WG p l e R s m args below meth c D ca b 5 (QG D ca b (some (.int rr)) T Vf below args s 0 0) 0 0 T V10 15 [(0, rv b (some this)), (1, .int p1), (2, .int v12), (3, .int v13)] [] := by
    intro n11
    induction n11 with
    | zero =>
      intro v12 v13 h
      cases h
    | succ n11 ih14 =>
      intro v12 v13 h
      rw [RS_leastWritingsWith_L15.eq_def] at h
      dsimp only at h
      refine g_iload_n (pc := 15) G dX9_leastWritingsWith_15 3 rfl ?_
      refine g_aload_n (pc := 16) G dX9_leastWritingsWith_16 0 rfl ?_
      obtain ⟨r16, e17, h⟩ := bd_e h
      obtain ⟨f18, k19⟩ := ck_e e17
      refine g_getR (pc := 17) G ci_8 (uw_8 G.2.2.2.2.1) (k := 6) (by decide) rfl rfl k_this (q405 G.2.2.2.2.1) dX9_leastWritingsWith_17 f18 ?_
      refine g_getIN (pc := 20) G ci_2 (uw_2 G.2.2.2.2.1) (k := 3) (by decide) rfl rfl k19 (q308 G.2.2.2.2.1) dX9_leastWritingsWith_20 ?_
      refine g_icmp_ge (pc := 23) G 59 dX9_leastWritingsWith_23 (by decide) (fun c20 => ?_) (fun c20 => ?_)
      · rw [if_pos c20] at h
        refine g_iload_n (pc := 59) G dX9_leastWritingsWith_59 2 rfl ?_
        cases h
        exact g_iret (pc := 60) G dX9_leastWritingsWith_60
      · rw [if_neg c20] at h
        refine g_aload_n (pc := 26) G dX9_leastWritingsWith_26 0 rfl ?_
        obtain ⟨r21, e22, h⟩ := bd_e h
        obtain ⟨f23, k24⟩ := ck_e e22
        refine g_getR (pc := 27) G ci_8 (uw_8 G.2.2.2.2.1) (k := 4) (by decide) rfl rfl k_this (q403 G.2.2.2.2.1) dX9_leastWritingsWith_27 f23 ?_
        refine g_iload_n (pc := 30) G dX9_leastWritingsWith_30 3 rfl ?_
        obtain ⟨r26, e25, h⟩ := bd_e h
        refine g_callV (pc := 31) (As := [.int v13]) (rest := []) (st2 := [rv b r26]) G (c_Sc_rowOf l D ca b k24 e25) (mb_Sc_rowOf G.2.2.2.2.1) (q581 G.2.2.2.2.1) (q582 G.2.2.2.2.1) (q580 G.2.2.2.2.1) ci_5 k24 rfl rfl (Nat.le_of_ble_eq_true rfl) ⟨Nat.le_trans (Nat.le_of_ble_eq_true rfl) hR.1, Nat.le_trans (Nat.le_of_ble_eq_true rfl) hR.2⟩ ⟨Nat.zero_le _, Nat.zero_le _⟩ rfl rfl dX9_leastWritingsWith_31 ?_
        refine g_astore (L' := [(4, rv b r26), (0, rv b (some this)), (1, .int p1), (2, .int v12), (3, .int v13)]) (pc := 34) G dX9_leastWritingsWith_34 (by decide) rfl ?_
        refine g_aload (pc := 36) G dX9_leastWritingsWith_36 0 rfl ?_
        cases r26 with
        | none =>
          dsimp only at h
          refine g_ifnullN (pc := 38) G 53 dX9_leastWritingsWith_38 (by decide) ?_
          refine g_iinc (v := v13 + 1) (L' := [(3, .int (v13 + 1)), (4, rv b none), (0, rv b (some this)), (1, .int p1), (2, .int v12)]) (pc := 53) G dX9_leastWritingsWith_53 4 rfl rfl (by decide) rfl ?_
          refine g_goto (pc := 56) G 15 dX9_leastWritingsWith_56 (by decide) ?_
          exact g_sub [2, 3, 4, 0] rfl (ih14 _ _ h)
        | some r27 =>
          dsimp only at h
          refine g_ifnullS (pc := 38) G dX9_leastWritingsWith_38 ?_
          refine g_aload (pc := 41) G dX9_leastWritingsWith_41 0 rfl ?_
          refine g_iload_n (pc := 43) G dX9_leastWritingsWith_43 2 rfl ?_
          obtain ⟨r30, e29, h⟩ := bd_e h
          have k28 : kd T r27 = 4 := by
            obtain ⟨ee, k0⟩ := ck_e e29
            cases ee
            exact k0
          obtain ⟨r32, e31, h⟩ := bd_e h
          refine g_callV (pc := 44) (As := [.int p1]) (rest := []) (st2 := [.int r32]) G (c_Ro_has l D ca b k28 e31) (mb_Ro_has G.2.2.2.2.1) (q585 G.2.2.2.2.1) (q586 G.2.2.2.2.1) (q584 G.2.2.2.2.1) ci_4 k28 rfl rfl (Nat.le_of_ble_eq_true rfl) ⟨Nat.le_trans (Nat.le_of_ble_eq_true rfl) hR.1, Nat.le_trans (Nat.le_of_ble_eq_true rfl) hR.2⟩ ⟨Nat.zero_le _, Nat.zero_le _⟩ rfl rfl dX9_leastWritingsWith_44 ?_
          refine g_if_eq (pc := 47) G 53 dX9_leastWritingsWith_47 (by decide) (fun c33 => ?_) (fun c33 => ?_)
          · rw [if_pos c33] at h
            refine g_iinc (v := v13 + 1) (L' := [(3, .int (v13 + 1)), (4, rv b (some r27)), (0, rv b (some this)), (1, .int p1), (2, .int v12)]) (pc := 53) G dX9_leastWritingsWith_53 4 rfl rfl (by decide) rfl ?_
            refine g_goto (pc := 56) G 15 dX9_leastWritingsWith_56 (by decide) ?_
            exact g_sub [2, 3, 4, 0] rfl (ih14 _ _ h)
          · rw [if_neg c33] at h
            refine g_iinc (v := v12 + 1) (L' := [(2, .int (v12 + 1)), (4, rv b (some r27)), (0, rv b (some this)), (1, .int p1), (3, .int v13)]) (pc := 50) G dX9_leastWritingsWith_50 3 rfl rfl (by decide) rfl ?_
            refine g_iinc (v := v13 + 1) (L' := [(3, .int (v13 + 1)), (2, .int (v12 + 1)), (4, rv b (some r27)), (0, rv b (some this)), (1, .int p1)]) (pc := 53) G dX9_leastWritingsWith_53 4 rfl rfl (by decide) rfl ?_
            refine g_goto (pc := 56) G 15 dX9_leastWritingsWith_56 (by decide) ?_
            exact g_sub [3, 4, 1, 0] rfl (ih14 _ _ h)
  exact g_sub [2, 3, 1, 0] rfl (LP15 _ _ _ h)
theorem c_RS_leastWritingsWith (l : Launch) (D : va_G) (ca : Nat → ClassId) (b : Nat) {T : Tx} {V : Vx} {this : Nat} {p1 : Int32} {rr : Int32} {Vf : Vx} (k_this : kd T this = 8) (h : RS_leastWritingsWith T V this p1 = some (rr, Vf)) : MG l yX9_leastWritingsWith cX9_leastWritingsWith 5 (Option.some Jvm.ClassFile.FieldType.int) 5 125 0 0 D ca b [rv b (some this), .int p1] T V (some (.int rr)) T Vf :=
  MG.ofWG (L := [(0, rv b (some this)), (1, .int p1)]) (by decide +kernel) rfl (Nat.le_of_ble_eq_true rfl) (fun _ _ _ _ _ _ _ G _ => w_RS_leastWritingsWith G ⟨Nat.le_refl _, Nat.le_refl _⟩ k_this h)
set_option maxHeartbeats 4000000 in
set_option maxRecDepth 100000 in
theorem w_RS_sign {p : Program} {l : Launch} {e : Env} {R : Room} {s : State} {m : MethodId} {args : Array Value} {below : List Frame} {meth : Method} {c : Code} {D : va_G} {ca : Nat → ClassId} {b : Nat} {T : Tx} {V : Vx} (G : GX p s m meth c cX9_sign 4 (Option.some Jvm.ClassFile.FieldType.int) RX9 "sign" D ca b) (hR : 6 ≤ R.frames ∧ 149 ≤ R.locals) {this : Nat} {p1 : Int32} {p2 : Int32} {rr : Int32} {Vf : Vx} (k_this : kd T this = 8) (h : RS_sign T V this p1 p2 = some (rr, Vf)) : WG p l e R s m args below meth c D ca b 4 (QG D ca b (some (.int rr)) T Vf below args s 0 0) 0 0 T V 0 [(0, rv b (some this)), (1, .int p1), (2, .int p2)] [] := by
  unfold RS_sign at h
  refine g_aload_n (pc := 0) G dX9_sign_0 0 rfl ?_
  obtain ⟨r1, e2, h⟩ := bd_e h
  obtain ⟨f3, k4⟩ := ck_e e2
  refine g_getR (pc := 1) G ci_8 (uw_8 G.2.2.2.2.1) (k := 6) (by decide) rfl rfl k_this (q405 G.2.2.2.2.1) dX9_sign_1 f3 ?_
  refine g_iload_n (pc := 4) G dX9_sign_4 1 rfl ?_
  obtain ⟨r6, e5, h⟩ := bd_e h
  refine g_callV (pc := 5) (As := [.int p1]) (rest := []) (st2 := [rv b r6]) G (c_Lx_signAt l D ca b k4 e5) (mb_Lx_signAt G.2.2.2.2.1) (q463 G.2.2.2.2.1) (q464 G.2.2.2.2.1) (q462 G.2.2.2.2.1) ci_2 k4 rfl rfl (Nat.le_of_ble_eq_true rfl) ⟨Nat.le_trans (Nat.le_of_ble_eq_true rfl) hR.1, Nat.le_trans (Nat.le_of_ble_eq_true rfl) hR.2⟩ ⟨Nat.zero_le _, Nat.zero_le _⟩ rfl rfl dX9_sign_5 ?_
  refine g_astore_n (L' := [(3, rv b r6), (0, rv b (some this)), (1, .int p1), (2, .int p2)]) (pc := 8) G dX9_sign_8 (by decide) rfl ?_
  refine g_aload_n (pc := 9) G dX9_sign_9 0 rfl ?_
  cases r6 with
  | none =>
    dsimp only at h
    refine g_ifnonnullN (pc := 10) G dX9_sign_10 ?_
    refine g_iconst (pc := 13) G (v := (-1)) dX9_sign_13 (by decide) ?_
    cases h
    exact g_iret (pc := 14) G dX9_sign_14
  | some r7 =>
    dsimp only at h
    refine g_ifnonnullS (pc := 10) G 15 dX9_sign_10 (by decide) ?_
    refine g_iload_n (pc := 15) G dX9_sign_15 3 rfl ?_
    by_cases c8 : p2 = 0
    · rw [if_pos c8] at h
      have K12 : WG p l e R s m args below meth c D ca b 4 (QG D ca b (some (.int rr)) T Vf below args s 0 0) 0 0 T V 52 [(3, rv b (some r7)), (0, rv b (some this)), (1, .int p1), (2, .int p2)] [] := by
        refine g_aload_n (pc := 52) G dX9_sign_52 0 rfl ?_
        obtain ⟨r11, e10, h⟩ := bd_e h
        have k9 : kd T r7 = 6 := by
          obtain ⟨ee, k0⟩ := ck_e e10
          cases ee
          exact k0
        refine g_getIN (pc := 53) G ci_6 (uw_6 G.2.2.2.2.1) (k := 1) (by decide) rfl rfl k9 (q260 G.2.2.2.2.1) dX9_sign_53 ?_
        cases h
        exact g_iret (pc := 56) G dX9_sign_56
      exact g_tabI (pc := 16) G 52 dX9_sign_16 (by rw [c8] <;> decide) (by rw [c8] <;> decide) (by rw [c8] <;> rfl) (by decide) K12
    · rw [if_neg c8] at h
      by_cases c13 : p2 = 1
      · rw [if_pos c13] at h
        have K18 : WG p l e R s m args below meth c D ca b 4 (QG D ca b (some (.int rr)) T Vf below args s 0 0) 0 0 T V 57 [(3, rv b (some r7)), (0, rv b (some this)), (1, .int p1), (2, .int p2)] [] := by
          refine g_aload_n (pc := 57) G dX9_sign_57 0 rfl ?_
          obtain ⟨r16, e15, h⟩ := bd_e h
          have k14 : kd T r7 = 6 := by
            obtain ⟨ee, k0⟩ := ck_e e15
            cases ee
            exact k0
          refine g_getIN (pc := 58) G ci_6 (uw_6 G.2.2.2.2.1) (k := 1) (by decide) rfl rfl k14 (q260 G.2.2.2.2.1) dX9_sign_58 ?_
          refine g_iconst (pc := 61) G (v := 1) dX9_sign_61 (by decide) ?_
          refine g_icmp_ne (pc := 62) G 70 dX9_sign_62 (by decide) (fun c17 => ?_) (fun c17 => ?_)
          · rw [if_neg c17] at h
            refine g_aload_n (pc := 70) G dX9_sign_70 0 rfl ?_
            refine g_getIN (pc := 71) G ci_6 (uw_6 G.2.2.2.2.1) (k := 2) (by decide) rfl rfl k14 (q264 G.2.2.2.2.1) dX9_sign_71 ?_
            cases h
            exact g_iret (pc := 74) G dX9_sign_74
          · rw [if_pos c17] at h
            refine g_bipush (pc := 65) G (v := (-4)) dX9_sign_65 (by decide) ?_
            refine g_goto (pc := 67) G 74 dX9_sign_67 (by decide) ?_
            cases h
            exact g_iret (pc := 74) G dX9_sign_74
        exact g_tabI (pc := 16) G 57 dX9_sign_16 (by rw [c13] <;> decide) (by rw [c13] <;> decide) (by rw [c13] <;> rfl) (by decide) K18
      · rw [if_neg c13] at h
        by_cases c19 : p2 = 2
        · rw [if_pos c19] at h
          have K29 : WG p l e R s m args below meth c D ca b 4 (QG D ca b (some (.int rr)) T Vf below args s 0 0) 0 0 T V 75 [(3, rv b (some r7)), (0, rv b (some this)), (1, .int p1), (2, .int p2)] [] := by
            refine g_aload_n (pc := 75) G dX9_sign_75 0 rfl ?_
            obtain ⟨r22, e21, h⟩ := bd_e h
            have k20 : kd T r7 = 6 := by
              obtain ⟨ee, k0⟩ := ck_e e21
              cases ee
              exact k0
            obtain ⟨r23, e24, h⟩ := bd_e h
            obtain ⟨f25, k26⟩ := ck_e e24
            refine g_getRN (pc := 76) G ci_6 (uw_6 G.2.2.2.2.1) (k := 0) (by decide) rfl rfl k20 (q255 G.2.2.2.2.1) dX9_sign_76 f25 ?_
            obtain ⟨r28, e27, h⟩ := bd_e h
            refine g_callV (pc := 79) (As := []) (rest := []) (st2 := [.int r28]) G (c_Le_size l D ca b k26 e27) (mb_Le_size G.2.2.2.2.1) (q332 G.2.2.2.2.1) (q333 G.2.2.2.2.1) (q432 G.2.2.2.2.1) ci_1 k26 rfl rfl (Nat.le_of_ble_eq_true rfl) ⟨Nat.le_trans (Nat.le_of_ble_eq_true rfl) hR.1, Nat.le_trans (Nat.le_of_ble_eq_true rfl) hR.2⟩ ⟨Nat.zero_le _, Nat.zero_le _⟩ rfl rfl dX9_sign_79 ?_
            cases h
            exact g_iret (pc := 82) G dX9_sign_82
          exact g_tabI (pc := 16) G 75 dX9_sign_16 (by rw [c19] <;> decide) (by rw [c19] <;> decide) (by rw [c19] <;> rfl) (by decide) K29
        · rw [if_neg c19] at h
          by_cases c30 : p2 = 3
          · rw [if_pos c30] at h
            have K35 : WG p l e R s m args below meth c D ca b 4 (QG D ca b (some (.int rr)) T Vf below args s 0 0) 0 0 T V 83 [(3, rv b (some r7)), (0, rv b (some this)), (1, .int p1), (2, .int p2)] [] := by
              refine g_aload_n (pc := 83) G dX9_sign_83 0 rfl ?_
              obtain ⟨r33, e32, h⟩ := bd_e h
              have k31 : kd T r7 = 6 := by
                obtain ⟨ee, k0⟩ := ck_e e32
                cases ee
                exact k0
              refine g_getIN (pc := 84) G ci_6 (uw_6 G.2.2.2.2.1) (k := 3) (by decide) rfl rfl k31 (q266 G.2.2.2.2.1) dX9_sign_84 ?_
              refine g_if_eq (pc := 87) G 94 dX9_sign_87 (by decide) (fun c34 => ?_) (fun c34 => ?_)
              · rw [if_pos c34] at h
                refine g_iconst (pc := 94) G (v := 0) dX9_sign_94 (by decide) ?_
                cases h
                exact g_iret (pc := 95) G dX9_sign_95
              · rw [if_neg c34] at h
                refine g_iconst (pc := 90) G (v := 1) dX9_sign_90 (by decide) ?_
                refine g_goto (pc := 91) G 95 dX9_sign_91 (by decide) ?_
                cases h
                exact g_iret (pc := 95) G dX9_sign_95
            exact g_tabI (pc := 16) G 83 dX9_sign_16 (by rw [c30] <;> decide) (by rw [c30] <;> decide) (by rw [c30] <;> rfl) (by decide) K35
          · rw [if_neg c30] at h
            by_cases c36 : p2 = 4
            · rw [if_pos c36] at h
              have K40 : WG p l e R s m args below meth c D ca b 4 (QG D ca b (some (.int rr)) T Vf below args s 0 0) 0 0 T V 96 [(3, rv b (some r7)), (0, rv b (some this)), (1, .int p1), (2, .int p2)] [] := by
                refine g_aload_n (pc := 96) G dX9_sign_96 1 rfl ?_
                refine g_iload_n (pc := 97) G dX9_sign_97 2 rfl ?_
                obtain ⟨r39, V38, e37, h⟩ := bd2_e h
                refine g_callV (pc := 98) (As := [.int p1]) (rest := []) (st2 := [.int r39]) G (c_RS_leastWritingsWith l D ca b k_this e37) (mb_RS_leastWritingsWith G.2.2.2.2.1) (q549 G.2.2.2.2.1) (q4 G.2.2.2.2.1) (q547 G.2.2.2.2.1) ci_8 k_this rfl rfl (Nat.le_of_ble_eq_true rfl) ⟨Nat.le_trans (Nat.le_of_ble_eq_true rfl) hR.1, Nat.le_trans (Nat.le_of_ble_eq_true rfl) hR.2⟩ ⟨Nat.zero_le _, Nat.zero_le _⟩ rfl rfl dX9_sign_98 ?_
                cases h
                exact g_iret (pc := 101) G dX9_sign_101
              exact g_tabI (pc := 16) G 96 dX9_sign_16 (by rw [c36] <;> decide) (by rw [c36] <;> decide) (by rw [c36] <;> rfl) (by decide) K40
            · rw [if_neg c36] at h
              have K41 : WG p l e R s m args below meth c D ca b 4 (QG D ca b (some (.int rr)) T Vf below args s 0 0) 0 0 T V 102 [(3, rv b (some r7)), (0, rv b (some this)), (1, .int p1), (2, .int p2)] [] := by
                refine g_iconst (pc := 102) G (v := (-1)) dX9_sign_102 (by decide) ?_
                cases h
                exact g_iret (pc := 103) G dX9_sign_103
              have c8T := lv_neT (a := 0) c8 (by decide)
              have c13T := lv_neT (a := 1) c13 (by decide)
              have c19T := lv_neT (a := 2) c19 (by decide)
              have c30T := lv_neT (a := 3) c30 (by decide)
              have c36T := lv_neT (a := 4) c36 (by decide)
              exact g_tabO (pc := 16) G 102 dX9_sign_16 (by omega) (by decide) K41
theorem c_RS_sign (l : Launch) (D : va_G) (ca : Nat → ClassId) (b : Nat) {T : Tx} {V : Vx} {this : Nat} {p1 : Int32} {p2 : Int32} {rr : Int32} {Vf : Vx} (k_this : kd T this = 8) (h : RS_sign T V this p1 p2 = some (rr, Vf)) : MG l yX9_sign cX9_sign 4 (Option.some Jvm.ClassFile.FieldType.int) 6 149 0 0 D ca b [rv b (some this), .int p1, .int p2] T V (some (.int rr)) T Vf :=
  MG.ofWG (L := [(0, rv b (some this)), (1, .int p1), (2, .int p2)]) (by decide +kernel) rfl (Nat.le_of_ble_eq_true rfl) (fun _ _ _ _ _ _ _ G _ => w_RS_sign G ⟨Nat.le_refl _, Nat.le_refl _⟩ k_this h)
