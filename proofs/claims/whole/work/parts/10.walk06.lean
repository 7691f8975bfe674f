set_option maxHeartbeats 4000000 in
set_option maxRecDepth 100000 in
theorem w_Mo_undo {p : Program} {l : Launch} {e : Env} {R : Room} {s : State} {m : MethodId} {args : Array Value} {below : List Frame} {meth : Method} {c : Code} {D : va_G} {ca : Nat → ClassId} {b : Nat} {T : Tx} {V : Vx} (G : GX p s m meth c cX10_undo 2 (Option.some Jvm.ClassFile.FieldType.int) RX10 "undo" D ca b) (hR : 0 ≤ R.frames ∧ 0 ≤ R.locals) {this : Nat} {rr : Int32} {Vf : Vx} (k_this : kd T this = 9) (h : Mo_undo T V this = some (rr, Vf)) : WG p l e R s m args below meth c D ca b 2 (QG D ca b (some (.int rr)) T Vf below args s 0 0) 0 0 T V 0 [(0, rv b (some this))] [] := by
  unfold Mo_undo at h
  refine g_aload_n (pc := 0) G dX10_undo_0 0 rfl ?_
  refine g_getI (pc := 1) G ci_9 (uw_9 G.2.2.2.2.1) (k := 7) (by decide) rfl rfl k_this (q781 G.2.2.2.2.1) dX10_undo_1 ?_
  refine g_if_ne (pc := 4) G 10 dX10_undo_4 (by decide) (fun c1 => ?_) (fun c1 => ?_)
  · rw [if_neg c1] at h
    refine g_aload_n (pc := 10) G dX10_undo_10 0 rfl ?_
    refine g_dup (pc := 11) G dX10_undo_11 rfl ?_
    refine g_getI (pc := 12) G ci_9 (uw_9 G.2.2.2.2.1) (k := 7) (by decide) rfl rfl k_this (q781 G.2.2.2.2.1) dX10_undo_12 ?_
    refine g_iconst (pc := 15) G (v := 1) dX10_undo_15 (by decide) ?_
    refine g_isub (pc := 16) G dX10_undo_16 ?_
    obtain ⟨V2, e3, h⟩ := lt_e h
    refine g_putI (pc := 17) G ci_9 (uw_9 G.2.2.2.2.1) (k := 7) (by decide) rfl rfl k_this rfl ⟨rfl, rfl⟩ (q781 G.2.2.2.2.1) e3 dX10_undo_17 ?_
    refine g_iconst (pc := 20) G (v := 0) dX10_undo_20 (by decide) ?_
    refine g_istore_n (L' := [(1, .int 0), (0, rv b (some this))]) (pc := 21) G dX10_undo_21 (by decide) rfl ?_
    have LP8 : ∀ (n4 : Nat) (V6 : Vx) (v5 : Int32), Mo_undo_L22 T this n4 V6 v5 = some (rr, Vf) → WG p l e R s m args below meth c D ca b 2 (QG D ca b (some (.int rr)) T Vf below args s 0 0) 0 0 T V6 22 [(0, rv b (some this)), (1, .int v5)] [] := by
      intro n4
      induction n4 with
      | zero =>
        intro V6 v5 h
        cases h
      | succ n4 ih7 =>
        intro V6 v5 h
        rw [Mo_undo_L22] at h
        refine g_iload_n (pc := 22) G dX10_undo_22 1 rfl ?_
        refine g_bipush (pc := 23) G (v := 19) dX10_undo_23 (by decide) ?_
        refine g_icmp_ge (pc := 25) G 54 dX10_undo_25 (by decide) (fun c9 => ?_) (fun c9 => ?_)
        · rw [if_pos c9] at h
          refine g_aload_n (pc := 54) G dX10_undo_54 0 rfl ?_
          refine g_getI (pc := 55) G ci_9 (uw_9 G.2.2.2.2.1) (k := 7) (by decide) rfl rfl k_this (q781 G.2.2.2.2.1) dX10_undo_55 ?_
          cases h
          exact g_iret (pc := 58) G dX10_undo_58
        · rw [if_neg c9] at h
          refine g_aload_n (pc := 28) G dX10_undo_28 0 rfl ?_
          obtain ⟨r10, e11, h⟩ := bd_e h
          obtain ⟨f12, k13⟩ := ck_e e11
          refine g_getR (pc := 29) G ci_9 (uw_9 G.2.2.2.2.1) (k := 5) (by decide) rfl rfl k_this (q779 G.2.2.2.2.1) dX10_undo_29 f12 ?_
          refine g_iload_n (pc := 32) G dX10_undo_32 1 rfl ?_
          refine g_aload_n (pc := 33) G dX10_undo_33 0 rfl ?_
          obtain ⟨r14, e15, h⟩ := bd_e h
          obtain ⟨f16, k17⟩ := ck_e e15
          refine g_getR (pc := 34) G ci_9 (uw_9 G.2.2.2.2.1) (k := 6) (by decide) rfl rfl k_this (q780 G.2.2.2.2.1) dX10_undo_34 f16 ?_
          refine g_bipush (pc := 37) G (v := 19) dX10_undo_37 (by decide) ?_
          refine g_aload_n (pc := 39) G dX10_undo_39 0 rfl ?_
          refine g_getI (pc := 40) G ci_9 (uw_9 G.2.2.2.2.1) (k := 7) (by decide) rfl rfl k_this (q781 G.2.2.2.2.1) dX10_undo_40 ?_
          refine g_imul (pc := 43) G dX10_undo_43 ?_
          refine g_iload_n (pc := 44) G dX10_undo_44 1 rfl ?_
          refine g_iadd (pc := 45) G dX10_undo_45 ?_
          obtain ⟨b18, h⟩ := gd_e h
          refine g_iald (pc := 46) G k17 b18 dX10_undo_46 ?_
          obtain ⟨b19, h⟩ := gd_e h
          obtain ⟨V20, e21, h⟩ := lt_e h
          refine g_iast (pc := 47) G k13 b19 e21 dX10_undo_47 ?_
          refine g_iinc (v := v5 + 1) (L' := [(1, .int (v5 + 1)), (0, rv b (some this))]) (pc := 48) G dX10_undo_48 1 rfl rfl (by decide) rfl ?_
          refine g_goto (pc := 51) G 22 dX10_undo_51 (by decide) ?_
          exact g_sub [1, 0] rfl (ih7 _ _ h)
    exact g_sub [1, 0] rfl (LP8 _ _ _ h)
  · rw [if_pos c1] at h
    refine g_bipush (pc := 7) G (v := (-2)) dX10_undo_7 (by decide) ?_
    cases h
    exact g_iret (pc := 9) G dX10_undo_9
theorem c_Mo_undo (l : Launch) (D : va_G) (ca : Nat → ClassId) (b : Nat) {T : Tx} {V : Vx} {this : Nat} {rr : Int32} {Vf : Vx} (k_this : kd T this = 9) (h : Mo_undo T V this = some (rr, Vf)) : MG l yX10_undo cX10_undo 2 (Option.some Jvm.ClassFile.FieldType.int) 0 0 0 0 D ca b [rv b (some this)] T V (some (.int rr)) T Vf :=
  MG.ofWG (L := [(0, rv b (some this))]) (by decide +kernel) rfl (Nat.le_of_ble_eq_true rfl) (fun _ _ _ _ _ _ _ G _ => w_Mo_undo G ⟨Nat.le_refl _, Nat.le_refl _⟩ k_this h)
set_option maxHeartbeats 4000000 in
set_option maxRecDepth 100000 in
theorem w_Mo_isSign {p : Program} {l : Launch} {e : Env} {R : Room} {s : State} {m : MethodId} {args : Array Value} {below : List Frame} {meth : Method} {c : Code} {D : va_G} {ca : Nat → ClassId} {b : Nat} {T : Tx} {V : Vx} (G : GX p s m meth c cX10_isSign 2 (Option.some Jvm.ClassFile.FieldType.boolean) RX10 "isSign" D ca b) (hR : 1 ≤ R.frames ∧ 25 ≤ R.locals) {this : Nat} {p1 : Int32} {rr : Int32}  (k_this : kd T this = 9) (h : Mo_isSign T V this p1 = some rr) : WG p l e R s m args below meth c D ca b 2 (QG D ca b (some (.int rr)) T V below args s 0 0) 0 0 T V 0 [(0, rv b (some this)), (1, .int p1)] [] := by
  unfold Mo_isSign at h
  refine g_iload_n (pc := 0) G dX10_isSign_0 1 rfl ?_
  refine g_i2l (pc := 1) G dX10_isSign_1 ?_
  refine g_lconst (pc := 2) G (v := 0) dX10_isSign_2 (by decide) ?_
  refine g_aload_n (pc := 3) G dX10_isSign_3 0 rfl ?_
  obtain ⟨r1, e2, h⟩ := bd_e h
  obtain ⟨f3, k4⟩ := ck_e e2
  refine g_getR (pc := 4) G ci_9 (uw_9 G.2.2.2.2.1) (k := 3) (by decide) rfl rfl k_this (q777 G.2.2.2.2.1) dX10_isSign_4 f3 ?_
  refine g_sipush (pc := 7) G (v := 164) dX10_isSign_7 (by decide) ?_
  obtain ⟨b5, h⟩ := gd_e h
  refine g_iald (pc := 10) G k4 b5 dX10_isSign_10 ?_
  refine g_iconst (pc := 11) G (v := 1) dX10_isSign_11 (by decide) ?_
  refine g_isub (pc := 12) G dX10_isSign_12 ?_
  refine g_i2l (pc := 13) G dX10_isSign_13 ?_
  obtain ⟨r7, e6, h⟩ := bd_e h
  refine g_callS (pc := 14) (As := [.long (Int32.toInt64 p1), .long 0, .long (Int32.toInt64 ((aI V r1 (164 : Int32).toNatClampNeg) - 1))]) (rest := []) (st2 := [.int r7]) G (c_Mo_in l D ca b  e6) (mb_Mo_in G.2.2.2.2.1) (q842 G.2.2.2.2.1) (q841 G.2.2.2.2.1) rfl rfl (Nat.le_of_ble_eq_true rfl) ⟨Nat.le_trans (Nat.le_of_ble_eq_true rfl) hR.1, Nat.le_trans (Nat.le_of_ble_eq_true rfl) hR.2⟩ ⟨Nat.zero_le _, Nat.zero_le _⟩ rfl rfl dX10_isSign_14 ?_
  obtain ⟨z8, h⟩ := gd_e h
  cases h
  exact g_zret (pc := 17) G z8 dX10_isSign_17
theorem c_Mo_isSign (l : Launch) (D : va_G) (ca : Nat → ClassId) (b : Nat) {T : Tx} {V : Vx} {this : Nat} {p1 : Int32} {rr : Int32}  (k_this : kd T this = 9) (h : Mo_isSign T V this p1 = some rr) : MG l yX10_isSign cX10_isSign 2 (Option.some Jvm.ClassFile.FieldType.boolean) 1 25 0 0 D ca b [rv b (some this), .int p1] T V (some (.int rr)) T V :=
  MG.ofWG (L := [(0, rv b (some this)), (1, .int p1)]) (by decide +kernel) rfl (Nat.le_of_ble_eq_true rfl) (fun _ _ _ _ _ _ _ G _ => w_Mo_isSign G ⟨Nat.le_refl _, Nat.le_refl _⟩ k_this h)
set_option maxHeartbeats 4000000 in
set_option maxRecDepth 100000 in
theorem w_Mo_isWord {p : Program} {l : Launch} {e : Env} {R : Room} {s : State} {m : MethodId} {args : Array Value} {below : List Frame} {meth : Method} {c : Code} {D : va_G} {ca : Nat → ClassId} {b : Nat} {T : Tx} {V : Vx} (G : GX p s m meth c cX10_isWord 2 (Option.some Jvm.ClassFile.FieldType.boolean) RX10 "isWord" D ca b) (hR : 1 ≤ R.frames ∧ 25 ≤ R.locals) {this : Nat} {p1 : Int32} {rr : Int32}  (k_this : kd T this = 9) (h : Mo_isWord T V this p1 = some rr) : WG p l e R s m args below meth c D ca b 2 (QG D ca b (some (.int rr)) T V below args s 0 0) 0 0 T V 0 [(0, rv b (some this)), (1, .int p1)] [] := by
  unfold Mo_isWord at h
  refine g_iload_n (pc := 0) G dX10_isWord_0 1 rfl ?_
  refine g_i2l (pc := 1) G dX10_isWord_1 ?_
  refine g_lconst (pc := 2) G (v := 0) dX10_isWord_2 (by decide) ?_
  refine g_aload_n (pc := 3) G dX10_isWord_3 0 rfl ?_
  obtain ⟨r1, e2, h⟩ := bd_e h
  obtain ⟨f3, k4⟩ := ck_e e2
  refine g_getR (pc := 4) G ci_9 (uw_9 G.2.2.2.2.1) (k := 3) (by decide) rfl rfl k_this (q777 G.2.2.2.2.1) dX10_isWord_4 f3 ?_
  refine g_sipush (pc := 7) G (v := 165) dX10_isWord_7 (by decide) ?_
  obtain ⟨b5, h⟩ := gd_e h
  refine g_iald (pc := 10) G k4 b5 dX10_isWord_10 ?_
  refine g_iconst (pc := 11) G (v := 1) dX10_isWord_11 (by decide) ?_
  refine g_isub (pc := 12) G dX10_isWord_12 ?_
  refine g_i2l (pc := 13) G dX10_isWord_13 ?_
  obtain ⟨r7, e6, h⟩ := bd_e h
  refine g_callS (pc := 14) (As := [.long (Int32.toInt64 p1), .long 0, .long (Int32.toInt64 ((aI V r1 (165 : Int32).toNatClampNeg) - 1))]) (rest := []) (st2 := [.int r7]) G (c_Mo_in l D ca b  e6) (mb_Mo_in G.2.2.2.2.1) (q842 G.2.2.2.2.1) (q841 G.2.2.2.2.1) rfl rfl (Nat.le_of_ble_eq_true rfl) ⟨Nat.le_trans (Nat.le_of_ble_eq_true rfl) hR.1, Nat.le_trans (Nat.le_of_ble_eq_true rfl) hR.2⟩ ⟨Nat.zero_le _, Nat.zero_le _⟩ rfl rfl dX10_isWord_14 ?_
  obtain ⟨z8, h⟩ := gd_e h
  cases h
  exact g_zret (pc := 17) G z8 dX10_isWord_17
theorem c_Mo_isWord (l : Launch) (D : va_G) (ca : Nat → ClassId) (b : Nat) {T : Tx} {V : Vx} {this : Nat} {p1 : Int32} {rr : Int32}  (k_this : kd T this = 9) (h : Mo_isWord T V this p1 = some rr) : MG l yX10_isWord cX10_isWord 2 (Option.some Jvm.ClassFile.FieldType.boolean) 1 25 0 0 D ca b [rv b (some this), .int p1] T V (some (.int rr)) T V :=
  MG.ofWG (L := [(0, rv b (some this)), (1, .int p1)]) (by decide +kernel) rfl (Nat.le_of_ble_eq_true rfl) (fun _ _ _ _ _ _ _ G _ => w_Mo_isWord G ⟨Nat.le_refl _, Nat.le_refl _⟩ k_this h)
set_option maxHeartbeats 4000000 in
set_option maxRecDepth 100000 in
theorem w_Mo_isStruck {p : Program} {l : Launch} {e : Env} {R : Room} {s : State} {m : MethodId} {args : Array Value} {below : List Frame} {meth : Method} {c : Code} {D : va_G} {ca : Nat → ClassId} {b : Nat} {T : Tx} {V : Vx} (G : GX p s m meth c cX10_isStruck 2 (Option.some Jvm.ClassFile.FieldType.boolean) RX10 "isStruck" D ca b) (hR : 0 ≤ R.frames ∧ 0 ≤ R.locals) {this : Nat} {p1 : Int32} {rr : Int32}  (k_this : kd T this = 9) (h : Mo_isStruck T V this p1 = some rr) : WG p l e R s m args below meth c D ca b 2 (QG D ca b (some (.int rr)) T V below args s 0 0) 0 0 T V 0 [(0, rv b (some this)), (1, .int p1)] [] := by
  unfold Mo_isStruck at h
  refine g_aload_n (pc := 0) G dX10_isStruck_0 0 rfl ?_
  obtain ⟨r1, e2, h⟩ := bd_e h
  obtain ⟨f3, k4⟩ := ck_e e2
  refine g_getR (pc := 1) G ci_9 (uw_9 G.2.2.2.2.1) (k := 5) (by decide) rfl rfl k_this (q779 G.2.2.2.2.1) dX10_isStruck_1 f3 ?_
  refine g_iconst (pc := 4) G (v := 1) dX10_isStruck_4 (by decide) ?_
  obtain ⟨b5, h⟩ := gd_e h
  refine g_iald (pc := 5) G k4 b5 dX10_isStruck_5 ?_
  refine g_iload_n (pc := 6) G dX10_isStruck_6 1 rfl ?_
  refine g_ishr (pc := 7) G dX10_isStruck_7 ?_
  refine g_iconst (pc := 8) G (v := 1) dX10_isStruck_8 (by decide) ?_
  refine g_iand (pc := 9) G dX10_isStruck_9 ?_
  refine g_iconst (pc := 10) G (v := 1) dX10_isStruck_10 (by decide) ?_
  refine g_icmp_ne (pc := 11) G 18 dX10_isStruck_11 (by decide) (fun c6 => ?_) (fun c6 => ?_)
  · rw [if_neg c6] at h
    refine g_iconst (pc := 18) G (v := 0) dX10_isStruck_18 (by decide) ?_
    cases h
    exact g_zret (pc := 19) G rfl dX10_isStruck_19
  · rw [if_pos c6] at h
    refine g_iconst (pc := 14) G (v := 1) dX10_isStruck_14 (by decide) ?_
    refine g_goto (pc := 15) G 19 dX10_isStruck_15 (by decide) ?_
    cases h
    exact g_zret (pc := 19) G rfl dX10_isStruck_19
theorem c_Mo_isStruck (l : Launch) (D : va_G) (ca : Nat → ClassId) (b : Nat) {T : Tx} {V : Vx} {this : Nat} {p1 : Int32} {rr : Int32}  (k_this : kd T this = 9) (h : Mo_isStruck T V this p1 = some rr) : MG l yX10_isStruck cX10_isStruck 2 (Option.some Jvm.ClassFile.FieldType.boolean) 0 0 0 0 D ca b [rv b (some this), .int p1] T V (some (.int rr)) T V :=
  MG.ofWG (L := [(0, rv b (some this)), (1, .int p1)]) (by decide +kernel) rfl (Nat.le_of_ble_eq_true rfl) (fun _ _ _ _ _ _ _ G _ => w_Mo_isStruck G ⟨Nat.le_refl _, Nat.le_refl _⟩ k_this h)
set_option maxHeartbeats 4000000 in
set_option maxRecDepth 100000 in
theorem w_Mo_bits {p : Program} {l : Launch} {e : Env} {R : Room} {s : State} {m : MethodId} {args : Array Value} {below : List Frame} {meth : Method} {c : Code} {D : va_G} {ca : Nat → ClassId} {b : Nat} {T : Tx} {V : Vx} (G : GX p s m meth c cX10_bits 3 (Option.some Jvm.ClassFile.FieldType.int) RX10 "bits" D ca b) (hR : 0 ≤ R.frames ∧ 0 ≤ R.locals) {p1 : Int32} {rr : Int32}   (h : Mo_bits T V p1 = some rr) : WG p l e R s m args below meth c D ca b 3 (QG D ca b (some (.int rr)) T V below args s 0 0) 0 0 T V 0 [(0, .int p1)] [] := by
  unfold Mo_bits at h
  refine g_iconst (pc := 0) G (v := 0) dX10_bits_0 (by decide) ?_
  refine g_istore_n (L' := [(1, .int 0), (0, .int p1)]) (pc := 1) G dX10_bits_1 (by decide) rfl ?_
  refine g_iconst (pc := 2) G (v := 0) dX10_bits_2 (by decide) ?_
  refine g_istore_n (L' := [(2, .int 0), (1, .int 0), (0, .int p1)]) (pc := 3) G dX10_bits_3 (by decide) rfl ?_
  have LP5 : ∀ (n1 : Nat) (v2 : Int32) (v3 : Int32), Mo_bits_L4 T V p1 n1 v2 v3 = some rr → WG p l e R s m args below meth c D ca b 3 (QG D ca b (some (.int rr)) T V below args s 0 0) 0 0 T V 4 [(0, .int p1), (1, .int v2), (2, .int v3)] [] := by
    intro n1
    induction n1 with
    | zero =>
      intro v2 v3 h
      cases h
    | succ n1 ih4 =>
      intro v2 v3 h
      rw [Mo_bits_L4] at h
      refine g_iload_n (pc := 4) G dX10_bits_4 2 rfl ?_
      refine g_bipush (pc := 5) G (v := 16) dX10_bits_5 (by decide) ?_
      refine g_icmp_ge (pc := 7) G 24 dX10_bits_7 (by decide) (fun c6 => ?_) (fun c6 => ?_)
      · rw [if_pos c6] at h
        refine g_iload_n (pc := 24) G dX10_bits_24 1 rfl ?_
        cases h
        exact g_iret (pc := 25) G dX10_bits_25
      · rw [if_neg c6] at h
        refine g_iload_n (pc := 10) G dX10_bits_10 1 rfl ?_
        refine g_iload_n (pc := 11) G dX10_bits_11 0 rfl ?_
        refine g_iload_n (pc := 12) G dX10_bits_12 2 rfl ?_
        refine g_ishr (pc := 13) G dX10_bits_13 ?_
        refine g_iconst (pc := 14) G (v := 1) dX10_bits_14 (by decide) ?_
        refine g_iand (pc := 15) G dX10_bits_15 ?_
        refine g_iadd (pc := 16) G dX10_bits_16 ?_
        obtain ⟨x7, e8, h⟩ := lt_e h
        rw [e8]
        refine g_istore_n (L' := [(1, .int x7), (0, .int p1), (2, .int v3)]) (pc := 17) G dX10_bits_17 (by decide) rfl ?_
        refine g_iinc (v := v3 + 1) (L' := [(2, .int (v3 + 1)), (1, .int x7), (0, .int p1)]) (pc := 18) G dX10_bits_18 2 rfl rfl (by decide) rfl ?_
        refine g_goto (pc := 21) G 4 dX10_bits_21 (by decide) ?_
        exact g_sub [2, 1, 0] rfl (ih4 _ _ h)
  exact g_sub [2, 1, 0] rfl (LP5 _ _ _ h)
theorem c_Mo_bits (l : Launch) (D : va_G) (ca : Nat → ClassId) (b : Nat) {T : Tx} {V : Vx} {p1 : Int32} {rr : Int32}   (h : Mo_bits T V p1 = some rr) : MG l yX10_bits cX10_bits 3 (Option.some Jvm.ClassFile.FieldType.int) 0 0 0 0 D ca b [.int p1] T V (some (.int rr)) T V :=
  MG.ofWG (L := [(0, .int p1)]) (by decide +kernel) rfl (Nat.le_of_ble_eq_true rfl) (fun _ _ _ _ _ _ _ G _ => w_Mo_bits G ⟨Nat.le_refl _, Nat.le_refl _⟩  h)
set_option maxHeartbeats 4000000 in
set_option maxRecDepth 100000 in
theorem w_Mo_strike {p : Program} {l : Launch} {e : Env} {R : Room} {s : State} {m : MethodId} {args : Array Value} {below : List Frame} {meth : Method} {c : Code} {D : va_G} {ca : Nat → ClassId} {b : Nat} {T : Tx} {V : Vx} (G : GX p s m meth c cX10_strike 3 (Option.some Jvm.ClassFile.FieldType.int) RX10 "strike" D ca b) (hR : 2 ≤ R.frames ∧ 46 ≤ R.locals) {this : Nat} {p1 : Int32} {p2 : Int32} {rr : Int32} {Vf : Vx} (k_this : kd T this = 9) (h : Mo_strike T V this p1 p2 = some (rr, Vf)) : WG p l e R s m args below meth c D ca b 3 (QG D ca b (some (.int rr)) T Vf below args s 0 0) 0 0 T V 0 [(0, rv b (some this)), (1, .int p1), (2, .int p2)] [] := by
  unfold Mo_strike at h
  refine g_aload_n (pc := 0) G dX10_strike_0 0 rfl ?_
  refine g_iload_n (pc := 1) G dX10_strike_1 1 rfl ?_
  obtain ⟨r2, e1, h⟩ := bd_e h
  refine g_callV (pc := 2) (As := [.int p1]) (rest := []) (st2 := [.int r2]) G (c_Mo_isSign l D ca b k_this e1) (mb_Mo_isSign G.2.2.2.2.1) (q897 G.2.2.2.2.1) (q25 G.2.2.2.2.1) (q895 G.2.2.2.2.1) ci_9 k_this rfl rfl (Nat.le_of_ble_eq_true rfl) ⟨Nat.le_trans (Nat.le_of_ble_eq_true rfl) hR.1, Nat.le_trans (Nat.le_of_ble_eq_true rfl) hR.2⟩ ⟨Nat.zero_le _, Nat.zero_le _⟩ rfl rfl dX10_strike_2 ?_
  refine g_if_eq (pc := 5) G 18 dX10_strike_5 (by decide) (fun c3 => ?_) (fun c3 => ?_)
  · rw [if_pos c3] at h
    refine g_iconst (pc := 18) G (v := (-1)) dX10_strike_18 (by decide) ?_
    cases h
    exact g_iret (pc := 19) G dX10_strike_19
  · rw [if_neg c3] at h
    refine g_iload_n (pc := 8) G dX10_strike_8 2 rfl ?_
    refine g_i2l (pc := 9) G dX10_strike_9 ?_
    refine g_lconst (pc := 10) G (v := 0) dX10_strike_10 (by decide) ?_
    refine g_lconst (pc := 11) G (v := 1) dX10_strike_11 (by decide) ?_
    obtain ⟨r5, e4, h⟩ := bd_e h
    refine g_callS (pc := 12) (As := [.long (Int32.toInt64 p2), .long 0, .long 1]) (rest := []) (st2 := [.int r5]) G (c_Mo_in l D ca b  e4) (mb_Mo_in G.2.2.2.2.1) (q842 G.2.2.2.2.1) (q841 G.2.2.2.2.1) rfl rfl (Nat.le_of_ble_eq_true rfl) ⟨Nat.le_trans (Nat.le_of_ble_eq_true rfl) hR.1, Nat.le_trans (Nat.le_of_ble_eq_true rfl) hR.2⟩ ⟨Nat.zero_le _, Nat.zero_le _⟩ rfl rfl dX10_strike_12 ?_
    refine g_if_ne (pc := 15) G 20 dX10_strike_15 (by decide) (fun c6 => ?_) (fun c6 => ?_)
    · rw [if_neg c6] at h
      refine g_aload_n (pc := 20) G dX10_strike_20 0 rfl ?_
      refine g_iload_n (pc := 21) G dX10_strike_21 1 rfl ?_
      obtain ⟨r8, e7, h⟩ := bd_e h
      refine g_callV (pc := 22) (As := [.int p1]) (rest := []) (st2 := [.int r8]) G (c_Mo_isStruck l D ca b k_this e7) (mb_Mo_isStruck G.2.2.2.2.1) (q901 G.2.2.2.2.1) (q26 G.2.2.2.2.1) (q899 G.2.2.2.2.1) ci_9 k_this rfl rfl (Nat.le_of_ble_eq_true rfl) ⟨Nat.le_trans (Nat.le_of_ble_eq_true rfl) hR.1, Nat.le_trans (Nat.le_of_ble_eq_true rfl) hR.2⟩ ⟨Nat.zero_le _, Nat.zero_le _⟩ rfl rfl dX10_strike_22 ?_
      refine g_iload_n (pc := 25) G dX10_strike_25 2 rfl ?_
      refine g_iconst (pc := 26) G (v := 1) dX10_strike_26 (by decide) ?_
      obtain ⟨x9, hx11, h⟩ := bd_e h
      have K10 : WG p l e R s m args below meth c D ca b 3 (QG D ca b (some (.int rr)) T Vf below args s 0 0) 0 0 T V 35 [(0, rv b (some this)), (1, .int p1)] [.int x9, .int r8] := by
        refine g_icmp_ne (pc := 35) G 41 dX10_strike_35 (by decide) (fun c14 => ?_) (fun c14 => ?_)
        · rw [if_neg c14] at h
          refine g_aload_n (pc := 41) G dX10_strike_41 0 rfl ?_
          obtain ⟨V16, e15, h⟩ := bd_e h
          refine g_callV (pc := 42) (As := []) (rest := []) (st2 := []) G (c_Mo_note l D ca b k_this e15) (mb_Mo_note G.2.2.2.2.1) (q905 G.2.2.2.2.1) (q27 G.2.2.2.2.1) (q903 G.2.2.2.2.1) ci_9 k_this rfl rfl (Nat.le_of_ble_eq_true rfl) ⟨Nat.le_trans (Nat.le_of_ble_eq_true rfl) hR.1, Nat.le_trans (Nat.le_of_ble_eq_true rfl) hR.2⟩ ⟨Nat.zero_le _, Nat.zero_le _⟩ rfl rfl dX10_strike_42 ?_
          refine g_aload_n (pc := 45) G dX10_strike_45 0 rfl ?_
          obtain ⟨r17, e18, h⟩ := bd_e h
          obtain ⟨f19, k20⟩ := ck_e e18
          refine g_getR (pc := 46) G ci_9 (uw_9 G.2.2.2.2.1) (k := 5) (by decide) rfl rfl k_this (q779 G.2.2.2.2.1) dX10_strike_46 f19 ?_
          refine g_iconst (pc := 49) G (v := 1) dX10_strike_49 (by decide) ?_
          refine g_dup2 (pc := 50) G dX10_strike_50 rfl rfl ?_
          obtain ⟨b21, h⟩ := gd_e h
          refine g_iald (pc := 51) G k20 b21 dX10_strike_51 ?_
          refine g_iconst (pc := 52) G (v := 1) dX10_strike_52 (by decide) ?_
          refine g_iload_n (pc := 53) G dX10_strike_53 1 rfl ?_
          refine g_ishl (pc := 54) G dX10_strike_54 ?_
          refine g_ixor (pc := 55) G dX10_strike_55 ?_
          obtain ⟨b22, h⟩ := gd_e h
          obtain ⟨V23, e24, h⟩ := lt_e h
          refine g_iast (pc := 56) G k20 b22 e24 dX10_strike_56 ?_
          refine g_aload_n (pc := 57) G dX10_strike_57 0 rfl ?_
          obtain ⟨r25, e26, h⟩ := bd_e h
          obtain ⟨f27, k28⟩ := ck_e e26
          refine g_getR (pc := 58) G ci_9 (uw_9 G.2.2.2.2.1) (k := 5) (by decide) rfl rfl k_this (q779 G.2.2.2.2.1) dX10_strike_58 f27 ?_
          refine g_iconst (pc := 61) G (v := 1) dX10_strike_61 (by decide) ?_
          obtain ⟨b29, h⟩ := gd_e h
          refine g_iald (pc := 62) G k28 b29 dX10_strike_62 ?_
          obtain ⟨r31, e30, h⟩ := bd_e h
          refine g_callS (pc := 63) (As := [.int (aI V23 r25 (1 : Int32).toNatClampNeg)]) (rest := []) (st2 := [.int r31]) G (c_Mo_bits l D ca b  e30) (mb_Mo_bits G.2.2.2.2.1) (q908 G.2.2.2.2.1) (q907 G.2.2.2.2.1) rfl rfl (Nat.le_of_ble_eq_true rfl) ⟨Nat.le_trans (Nat.le_of_ble_eq_true rfl) hR.1, Nat.le_trans (Nat.le_of_ble_eq_true rfl) hR.2⟩ ⟨Nat.zero_le _, Nat.zero_le _⟩ rfl rfl dX10_strike_63 ?_
          cases h
          exact g_iret (pc := 66) G dX10_strike_66
        · rw [if_pos c14] at h
          refine g_bipush (pc := 38) G (v := (-2)) dX10_strike_38 (by decide) ?_
          cases h
          exact g_iret (pc := 40) G dX10_strike_40
      refine g_icmp_ne (pc := 27) G 34 dX10_strike_27 (by decide) (fun c13 => ?_) (fun c13 => ?_)
      · rw [if_neg c13] at hx11
        refine g_iconst (pc := 34) G (v := 0) dX10_strike_34 (by decide) ?_
        cases hx11
        exact g_sub [0, 1] rfl K10
      · rw [if_pos c13] at hx11
        refine g_iconst (pc := 30) G (v := 1) dX10_strike_30 (by decide) ?_
        refine g_goto (pc := 31) G 35 dX10_strike_31 (by decide) ?_
        cases hx11
        exact g_sub [0, 1] rfl K10
    · rw [if_pos c6] at h
      refine g_iconst (pc := 18) G (v := (-1)) dX10_strike_18 (by decide) ?_
      cases h
      exact g_iret (pc := 19) G dX10_strike_19
theorem c_Mo_strike (l : Launch) (D : va_G) (ca : Nat → ClassId) (b : Nat) {T : Tx} {V : Vx} {this : Nat} {p1 : Int32} {p2 : Int32} {rr : Int32} {Vf : Vx} (k_this : kd T this = 9) (h : Mo_strike T V this p1 p2 = some (rr, Vf)) : MG l yX10_strike cX10_strike 3 (Option.some Jvm.ClassFile.FieldType.int) 2 46 0 0 D ca b [rv b (some this), .int p1, .int p2] T V (some (.int rr)) T Vf :=
  MG.ofWG (L := [(0, rv b (some this)), (1, .int p1), (2, .int p2)]) (by decide +kernel) rfl (Nat.le_of_ble_eq_true rfl) (fun _ _ _ _ _ _ _ G _ => w_Mo_strike G ⟨Nat.le_refl _, Nat.le_refl _⟩ k_this h)
set_option maxHeartbeats 4000000 in
set_option maxRecDepth 100000 in
theorem w_Mo_law {p : Program} {l : Launch} {e : Env} {R : Room} {s : State} {m : MethodId} {args : Array Value} {below : List Frame} {meth : Method} {c : Code} {D : va_G} {ca : Nat → ClassId} {b : Nat} {T : Tx} {V : Vx} (G : GX p s m meth c cX10_law 3 (Option.some Jvm.ClassFile.FieldType.int) RX10 "law" D ca b) (hR : 1 ≤ R.frames ∧ 25 ≤ R.locals) {this : Nat} {p1 : Int32} {rr : Int32} {Vf : Vx} (k_this : kd T this = 9) (h : Mo_law T V this p1 = some (rr, Vf)) : WG p l e R s m args below meth c D ca b 3 (QG D ca b (some (.int rr)) T Vf below args s 0 0) 0 0 T V 0 [(0, rv b (some this)), (1, .int p1)] [] := by
  unfold Mo_law at h
  refine g_iload_n (pc := 0) G dX10_law_0 1 rfl ?_
  refine g_i2l (pc := 1) G dX10_law_1 ?_
  refine g_lconst (pc := 2) G (v := 0) dX10_law_2 (by decide) ?_
  refine g_lconst (pc := 3) G (v := 1) dX10_law_3 (by decide) ?_
  obtain ⟨r2, e1, h⟩ := bd_e h
  refine g_callS (pc := 4) (As := [.long (Int32.toInt64 p1), .long 0, .long 1]) (rest := []) (st2 := [.int r2]) G (c_Mo_in l D ca b  e1) (mb_Mo_in G.2.2.2.2.1) (q842 G.2.2.2.2.1) (q841 G.2.2.2.2.1) rfl rfl (Nat.le_of_ble_eq_true rfl) ⟨Nat.le_trans (Nat.le_of_ble_eq_true rfl) hR.1, Nat.le_trans (Nat.le_of_ble_eq_true rfl) hR.2⟩ ⟨Nat.zero_le _, Nat.zero_le _⟩ rfl rfl dX10_law_4 ?_
  refine g_if_ne (pc := 7) G 12 dX10_law_7 (by decide) (fun c3 => ?_) (fun c3 => ?_)
  · rw [if_neg c3] at h
    refine g_aload_n (pc := 12) G dX10_law_12 0 rfl ?_
    obtain ⟨r4, e5, h⟩ := bd_e h
    obtain ⟨f6, k7⟩ := ck_e e5
    refine g_getR (pc := 13) G ci_9 (uw_9 G.2.2.2.2.1) (k := 5) (by decide) rfl rfl k_this (q779 G.2.2.2.2.1) dX10_law_13 f6 ?_
    refine g_iconst (pc := 16) G (v := 0) dX10_law_16 (by decide) ?_
    obtain ⟨b8, h⟩ := gd_e h
    refine g_iald (pc := 17) G k7 b8 dX10_law_17 ?_
    obtain ⟨x9, e10, h⟩ := lt_e h
    rw [e10]
    refine g_istore_n (L' := [(2, .int x9), (0, rv b (some this)), (1, .int p1)]) (pc := 18) G dX10_law_18 (by decide) rfl ?_
    refine g_iload_n (pc := 19) G dX10_law_19 0 rfl ?_
    refine g_iload_n (pc := 20) G dX10_law_20 2 rfl ?_
    refine g_icmp_ne (pc := 21) G 27 dX10_law_21 (by decide) (fun c11 => ?_) (fun c11 => ?_)
    · rw [if_neg c11] at h
      refine g_aload_n (pc := 27) G dX10_law_27 1 rfl ?_
      obtain ⟨V13, e12, h⟩ := bd_e h
      refine g_callV (pc := 28) (As := []) (rest := []) (st2 := []) G (c_Mo_note l D ca b k_this e12) (mb_Mo_note G.2.2.2.2.1) (q905 G.2.2.2.2.1) (q27 G.2.2.2.2.1) (q903 G.2.2.2.2.1) ci_9 k_this rfl rfl (Nat.le_of_ble_eq_true rfl) ⟨Nat.le_trans (Nat.le_of_ble_eq_true rfl) hR.1, Nat.le_trans (Nat.le_of_ble_eq_true rfl) hR.2⟩ ⟨Nat.zero_le _, Nat.zero_le _⟩ rfl rfl dX10_law_28 ?_
      refine g_aload_n (pc := 31) G dX10_law_31 1 rfl ?_
      obtain ⟨r14, e15, h⟩ := bd_e h
      obtain ⟨f16, k17⟩ := ck_e e15
      refine g_getR (pc := 32) G ci_9 (uw_9 G.2.2.2.2.1) (k := 5) (by decide) rfl rfl k_this (q779 G.2.2.2.2.1) dX10_law_32 f16 ?_
      refine g_iconst (pc := 35) G (v := 0) dX10_law_35 (by decide) ?_
      refine g_iload_n (pc := 36) G dX10_law_36 2 rfl ?_
      obtain ⟨b18, h⟩ := gd_e h
      obtain ⟨V19, e20, h⟩ := lt_e h
      refine g_iast (pc := 37) G k17 b18 e20 dX10_law_37 ?_
      refine g_iload_n (pc := 38) G dX10_law_38 0 rfl ?_
      cases h
      exact g_iret (pc := 39) G dX10_law_39
    · rw [if_pos c11] at h
      refine g_bipush (pc := 24) G (v := (-2)) dX10_law_24 (by decide) ?_
      cases h
      exact g_iret (pc := 26) G dX10_law_26
  · rw [if_pos c3] at h
    refine g_iconst (pc := 10) G (v := (-1)) dX10_law_10 (by decide) ?_
    cases h
    exact g_iret (pc := 11) G dX10_law_11
theorem c_Mo_law (l : Launch) (D : va_G) (ca : Nat → ClassId) (b : Nat) {T : Tx} {V : Vx} {this : Nat} {p1 : Int32} {rr : Int32} {Vf : Vx} (k_this : kd T this = 9) (h : Mo_law T V this p1 = some (rr, Vf)) : MG l yX10_law cX10_law 3 (Option.some Jvm.ClassFile.FieldType.int) 1 25 0 0 D ca b [rv b (some this), .int p1] T V (some (.int rr)) T Vf :=
  MG.ofWG (L := [(0, rv b (some this)), (1, .int p1)]) (by decide +kernel) rfl (Nat.le_of_ble_eq_true rfl) (fun _ _ _ _ _ _ _ G _ => w_Mo_law G ⟨Nat.le_refl _, Nat.le_refl _⟩ k_this h)
set_option maxHeartbeats 4000000 in
set_option maxRecDepth 100000 in
theorem w_Mo_carve {p : Program} {l : Launch} {e : Env} {R : Room} {s : State} {m : MethodId} {args : Array Value} {below : List Frame} {meth : Method} {c : Code} {D : va_G} {ca : Nat → ClassId} {b : Nat} {T : Tx} {V : Vx} (G : GX p s m meth c cX10_carve 2 (Option.some Jvm.ClassFile.FieldType.int) RX10 "carve" D ca b) (hR : 2 ≤ R.frames ∧ 46 ≤ R.locals) {this : Nat} {p1 : Int32} {rr : Int32} {Vf : Vx} (k_this : kd T this = 9) (h : Mo_carve T V this p1 = some (rr, Vf)) : WG p l e R s m args below meth c D ca b 2 (QG D ca b (some (.int rr)) T Vf below args s 0 0) 0 0 T V 0 [(0, rv b (some this)), (1, .int p1)] [] := by
  unfold Mo_carve at h
  refine g_aload_n (pc := 0) G dX10_carve_0 0 rfl ?_
  refine g_iload_n (pc := 1) G dX10_carve_1 1 rfl ?_
  obtain ⟨r2, e1, h⟩ := bd_e h
  refine g_callV (pc := 2) (As := [.int p1]) (rest := []) (st2 := [.int r2]) G (c_Mo_isSign l D ca b k_this e1) (mb_Mo_isSign G.2.2.2.2.1) (q897 G.2.2.2.2.1) (q25 G.2.2.2.2.1) (q895 G.2.2.2.2.1) ci_9 k_this rfl rfl (Nat.le_of_ble_eq_true rfl) ⟨Nat.le_trans (Nat.le_of_ble_eq_true rfl) hR.1, Nat.le_trans (Nat.le_of_ble_eq_true rfl) hR.2⟩ ⟨Nat.zero_le _, Nat.zero_le _⟩ rfl rfl dX10_carve_2 ?_
  refine g_if_ne (pc := 5) G 10 dX10_carve_5 (by decide) (fun c3 => ?_) (fun c3 => ?_)
  · rw [if_neg c3] at h
    refine g_aload_n (pc := 10) G dX10_carve_10 0 rfl ?_
    obtain ⟨r4, e5, h⟩ := bd_e h
    obtain ⟨f6, k7⟩ := ck_e e5
    refine g_getR (pc := 11) G ci_9 (uw_9 G.2.2.2.2.1) (k := 5) (by decide) rfl rfl k_this (q779 G.2.2.2.2.1) dX10_carve_11 f6 ?_
    refine g_iconst (pc := 14) G (v := 2) dX10_carve_14 (by decide) ?_
    obtain ⟨b8, h⟩ := gd_e h
    refine g_iald (pc := 15) G k7 b8 dX10_carve_15 ?_
    refine g_bipush (pc := 16) G (v := 16) dX10_carve_16 (by decide) ?_
    refine g_icmp_ne (pc := 18) G 24 dX10_carve_18 (by decide) (fun c9 => ?_) (fun c9 => ?_)
    · rw [if_neg c9] at h
      refine g_aload_n (pc := 24) G dX10_carve_24 0 rfl ?_
      obtain ⟨V11, e10, h⟩ := bd_e h
      refine g_callV (pc := 25) (As := []) (rest := []) (st2 := []) G (c_Mo_note l D ca b k_this e10) (mb_Mo_note G.2.2.2.2.1) (q905 G.2.2.2.2.1) (q27 G.2.2.2.2.1) (q903 G.2.2.2.2.1) ci_9 k_this rfl rfl (Nat.le_of_ble_eq_true rfl) ⟨Nat.le_trans (Nat.le_of_ble_eq_true rfl) hR.1, Nat.le_trans (Nat.le_of_ble_eq_true rfl) hR.2⟩ ⟨Nat.zero_le _, Nat.zero_le _⟩ rfl rfl dX10_carve_25 ?_
      refine g_aload_n (pc := 28) G dX10_carve_28 0 rfl ?_
      obtain ⟨r12, e13, h⟩ := bd_e h
      obtain ⟨f14, k15⟩ := ck_e e13
      refine g_getR (pc := 29) G ci_9 (uw_9 G.2.2.2.2.1) (k := 5) (by decide) rfl rfl k_this (q779 G.2.2.2.2.1) dX10_carve_29 f14 ?_
      refine g_iconst (pc := 32) G (v := 3) dX10_carve_32 (by decide) ?_
      refine g_aload_n (pc := 33) G dX10_carve_33 0 rfl ?_
      obtain ⟨r16, e17, h⟩ := bd_e h
      obtain ⟨f18, k19⟩ := ck_e e17
      refine g_getR (pc := 34) G ci_9 (uw_9 G.2.2.2.2.1) (k := 5) (by decide) rfl rfl k_this (q779 G.2.2.2.2.1) dX10_carve_34 f18 ?_
      refine g_iconst (pc := 37) G (v := 2) dX10_carve_37 (by decide) ?_
      obtain ⟨b20, h⟩ := gd_e h
      refine g_iald (pc := 38) G k19 b20 dX10_carve_38 ?_
      refine g_iadd (pc := 39) G dX10_carve_39 ?_
      refine g_iload_n (pc := 40) G dX10_carve_40 1 rfl ?_
      obtain ⟨b21, h⟩ := gd_e h
      obtain ⟨V22, e23, h⟩ := lt_e h
      refine g_iast (pc := 41) G k15 b21 e23 dX10_carve_41 ?_
      refine g_aload_n (pc := 42) G dX10_carve_42 0 rfl ?_
      obtain ⟨r24, e25, h⟩ := bd_e h
      obtain ⟨f26, k27⟩ := ck_e e25
      refine g_getR (pc := 43) G ci_9 (uw_9 G.2.2.2.2.1) (k := 5) (by decide) rfl rfl k_this (q779 G.2.2.2.2.1) dX10_carve_43 f26 ?_
      refine g_iconst (pc := 46) G (v := 2) dX10_carve_46 (by decide) ?_
      refine g_dup2 (pc := 47) G dX10_carve_47 rfl rfl ?_
      obtain ⟨b28, h⟩ := gd_e h
      refine g_iald (pc := 48) G k27 b28 dX10_carve_48 ?_
      refine g_iconst (pc := 49) G (v := 1) dX10_carve_49 (by decide) ?_
      refine g_iadd (pc := 50) G dX10_carve_50 ?_
      obtain ⟨b29, h⟩ := gd_e h
      obtain ⟨V30, e31, h⟩ := lt_e h
      refine g_iast (pc := 51) G k27 b29 e31 dX10_carve_51 ?_
      refine g_aload_n (pc := 52) G dX10_carve_52 0 rfl ?_
      obtain ⟨r32, e33, h⟩ := bd_e h
      obtain ⟨f34, k35⟩ := ck_e e33
      refine g_getR (pc := 53) G ci_9 (uw_9 G.2.2.2.2.1) (k := 5) (by decide) rfl rfl k_this (q779 G.2.2.2.2.1) dX10_carve_53 f34 ?_
      refine g_iconst (pc := 56) G (v := 2) dX10_carve_56 (by decide) ?_
      obtain ⟨b36, h⟩ := gd_e h
      refine g_iald (pc := 57) G k35 b36 dX10_carve_57 ?_
      cases h
      exact g_iret (pc := 58) G dX10_carve_58
    · rw [if_pos c9] at h
      refine g_bipush (pc := 21) G (v := (-3)) dX10_carve_21 (by decide) ?_
      cases h
      exact g_iret (pc := 23) G dX10_carve_23
  · rw [if_pos c3] at h
    refine g_iconst (pc := 8) G (v := (-1)) dX10_carve_8 (by decide) ?_
    cases h
    exact g_iret (pc := 9) G dX10_carve_9
theorem c_Mo_carve (l : Launch) (D : va_G) (ca : Nat → ClassId) (b : Nat) {T : Tx} {V : Vx} {this : Nat} {p1 : Int32} {rr : Int32} {Vf : Vx} (k_this : kd T this = 9) (h : Mo_carve T V this p1 = some (rr, Vf)) : MG l yX10_carve cX10_carve 2 (Option.some Jvm.ClassFile.FieldType.int) 2 46 0 0 D ca b [rv b (some this), .int p1] T V (some (.int rr)) T Vf :=
  MG.ofWG (L := [(0, rv b (some this)), (1, .int p1)]) (by decide +kernel) rfl (Nat.le_of_ble_eq_true rfl) (fun _ _ _ _ _ _ _ G _ => w_Mo_carve G ⟨Nat.le_refl _, Nat.le_refl _⟩ k_this h)
set_option maxHeartbeats 4000000 in
set_option maxRecDepth 100000 in
theorem w_Mo_chip {p : Program} {l : Launch} {e : Env} {R : Room} {s : State} {m : MethodId} {args : Array Value} {below : List Frame} {meth : Method} {c : Code} {D : va_G} {ca : Nat → ClassId} {b : Nat} {T : Tx} {V : Vx} (G : GX p s m meth c cX10_chip 1 (Option.some Jvm.ClassFile.FieldType.int) RX10 "chip" D ca b) (hR : 1 ≤ R.frames ∧ 21 ≤ R.locals) {this : Nat} {rr : Int32} {Vf : Vx} (k_this : kd T this = 9) (h : Mo_chip T V this = some (rr, Vf)) : WG p l e R s m args below meth c D ca b 1 (QG D ca b (some (.int rr)) T Vf below args s 0 0) 0 0 T V 0 [(0, rv b (some this))] [] := by
  unfold Mo_chip at h
  refine g_aload_n (pc := 0) G dX10_chip_0 0 rfl ?_
  obtain ⟨r1, e2, h⟩ := bd_e h
  obtain ⟨f3, k4⟩ := ck_e e2
  refine g_getR (pc := 1) G ci_9 (uw_9 G.2.2.2.2.1) (k := 5) (by decide) rfl rfl k_this (q779 G.2.2.2.2.1) dX10_chip_1 f3 ?_
  refine g_iconst (pc := 4) G (v := 2) dX10_chip_4 (by decide) ?_
  obtain ⟨b5, h⟩ := gd_e h
  refine g_iald (pc := 5) G k4 b5 dX10_chip_5 ?_
  refine g_if_ne (pc := 6) G 12 dX10_chip_6 (by decide) (fun c6 => ?_) (fun c6 => ?_)
  · rw [if_neg c6] at h
    refine g_aload_n (pc := 12) G dX10_chip_12 0 rfl ?_
    obtain ⟨V8, e7, h⟩ := bd_e h
    refine g_callV (pc := 13) (As := []) (rest := []) (st2 := []) G (c_Mo_note l D ca b k_this e7) (mb_Mo_note G.2.2.2.2.1) (q905 G.2.2.2.2.1) (q27 G.2.2.2.2.1) (q903 G.2.2.2.2.1) ci_9 k_this rfl rfl (Nat.le_of_ble_eq_true rfl) ⟨Nat.le_trans (Nat.le_of_ble_eq_true rfl) hR.1, Nat.le_trans (Nat.le_of_ble_eq_true rfl) hR.2⟩ ⟨Nat.zero_le _, Nat.zero_le _⟩ rfl rfl dX10_chip_13 ?_
    refine g_aload_n (pc := 16) G dX10_chip_16 0 rfl ?_
    obtain ⟨r9, e10, h⟩ := bd_e h
    obtain ⟨f11, k12⟩ := ck_e e10
    refine g_getR (pc := 17) G ci_9 (uw_9 G.2.2.2.2.1) (k := 5) (by decide) rfl rfl k_this (q779 G.2.2.2.2.1) dX10_chip_17 f11 ?_
    refine g_iconst (pc := 20) G (v := 2) dX10_chip_20 (by decide) ?_
    refine g_dup2 (pc := 21) G dX10_chip_21 rfl rfl ?_
    obtain ⟨b13, h⟩ := gd_e h
    refine g_iald (pc := 22) G k12 b13 dX10_chip_22 ?_
    refine g_iconst (pc := 23) G (v := 1) dX10_chip_23 (by decide) ?_
    refine g_isub (pc := 24) G dX10_chip_24 ?_
    obtain ⟨b14, h⟩ := gd_e h
    obtain ⟨V15, e16, h⟩ := lt_e h
    refine g_iast (pc := 25) G k12 b14 e16 dX10_chip_25 ?_
    refine g_aload_n (pc := 26) G dX10_chip_26 0 rfl ?_
    obtain ⟨r17, e18, h⟩ := bd_e h
    obtain ⟨f19, k20⟩ := ck_e e18
    refine g_getR (pc := 27) G ci_9 (uw_9 G.2.2.2.2.1) (k := 5) (by decide) rfl rfl k_this (q779 G.2.2.2.2.1) dX10_chip_27 f19 ?_
    refine g_iconst (pc := 30) G (v := 3) dX10_chip_30 (by decide) ?_
    refine g_aload_n (pc := 31) G dX10_chip_31 0 rfl ?_
    obtain ⟨r21, e22, h⟩ := bd_e h
    obtain ⟨f23, k24⟩ := ck_e e22
    refine g_getR (pc := 32) G ci_9 (uw_9 G.2.2.2.2.1) (k := 5) (by decide) rfl rfl k_this (q779 G.2.2.2.2.1) dX10_chip_32 f23 ?_
    refine g_iconst (pc := 35) G (v := 2) dX10_chip_35 (by decide) ?_
    obtain ⟨b25, h⟩ := gd_e h
    refine g_iald (pc := 36) G k24 b25 dX10_chip_36 ?_
    refine g_iadd (pc := 37) G dX10_chip_37 ?_
    obtain ⟨b26, h⟩ := gd_e h
    refine g_iald (pc := 38) G k20 b26 dX10_chip_38 ?_
    cases h
    exact g_iret (pc := 39) G dX10_chip_39
  · rw [if_pos c6] at h
    refine g_bipush (pc := 9) G (v := (-2)) dX10_chip_9 (by decide) ?_
    cases h
    exact g_iret (pc := 11) G dX10_chip_11
theorem c_Mo_chip (l : Launch) (D : va_G) (ca : Nat → ClassId) (b : Nat) {T : Tx} {V : Vx} {this : Nat} {rr : Int32} {Vf : Vx} (k_this : kd T this = 9) (h : Mo_chip T V this = some (rr, Vf)) : MG l yX10_chip cX10_chip 1 (Option.some Jvm.ClassFile.FieldType.int) 1 21 0 0 D ca b [rv b (some this)] T V (some (.int rr)) T Vf :=
  MG.ofWG (L := [(0, rv b (some this))]) (by decide +kernel) rfl (Nat.le_of_ble_eq_true rfl) (fun _ _ _ _ _ _ _ G _ => w_Mo_chip G ⟨Nat.le_refl _, Nat.le_refl _⟩ k_this h)
set_option maxHeartbeats 4000000 in
set_option maxRecDepth 100000 in
theorem w_Mo_letterOf {p : Program} {l : Launch} {e : Env} {R : Room} {s : State} {m : MethodId} {args : Array Value} {below : List Frame} {meth : Method} {c : Code} {D : va_G} {ca : Nat → ClassId} {b : Nat} {T : Tx} {V : Vx} (G : GX p s m meth c cX10_letterOf 3 (Option.some Jvm.ClassFile.FieldType.int) RX10 "letterOf" D ca b) (hR : 0 ≤ R.frames ∧ 0 ≤ R.locals) {this : Nat} {p1 : Int32} {p2 : Int32} {rr : Int32}  (k_this : kd T this = 9) (h : Mo_letterOf T V this p1 p2 = some rr) : WG p l e R s m args below meth c D ca b 3 (QG D ca b (some (.int rr)) T V below args s 0 0) 0 0 T V 0 [(0, rv b (some this)), (1, .int p1), (2, .int p2)] [] := by
  unfold Mo_letterOf at h
  refine g_aload_n (pc := 0) G dX10_letterOf_0 0 rfl ?_
  obtain ⟨r1, e2, h⟩ := bd_e h
  obtain ⟨f3, k4⟩ := ck_e e2
  refine g_getR (pc := 1) G ci_9 (uw_9 G.2.2.2.2.1) (k := 3) (by decide) rfl rfl k_this (q777 G.2.2.2.2.1) dX10_letterOf_1 f3 ?_
  refine g_bipush (pc := 4) G (v := 84) dX10_letterOf_4 (by decide) ?_
  refine g_bipush (pc := 6) G (v := 10) dX10_letterOf_6 (by decide) ?_
  refine g_iload_n (pc := 8) G dX10_letterOf_8 1 rfl ?_
  refine g_imul (pc := 9) G dX10_letterOf_9 ?_
  refine g_iadd (pc := 10) G dX10_letterOf_10 ?_
  refine g_iconst (pc := 11) G (v := 2) dX10_letterOf_11 (by decide) ?_
  refine g_iadd (pc := 12) G dX10_letterOf_12 ?_
  refine g_iload_n (pc := 13) G dX10_letterOf_13 2 rfl ?_
  refine g_iadd (pc := 14) G dX10_letterOf_14 ?_
  obtain ⟨b5, h⟩ := gd_e h
  refine g_iald (pc := 15) G k4 b5 dX10_letterOf_15 ?_
  cases h
  exact g_iret (pc := 16) G dX10_letterOf_16
theorem c_Mo_letterOf (l : Launch) (D : va_G) (ca : Nat → ClassId) (b : Nat) {T : Tx} {V : Vx} {this : Nat} {p1 : Int32} {p2 : Int32} {rr : Int32}  (k_this : kd T this = 9) (h : Mo_letterOf T V this p1 p2 = some rr) : MG l yX10_letterOf cX10_letterOf 3 (Option.some Jvm.ClassFile.FieldType.int) 0 0 0 0 D ca b [rv b (some this), .int p1, .int p2] T V (some (.int rr)) T V :=
  MG.ofWG (L := [(0, rv b (some this)), (1, .int p1), (2, .int p2)]) (by decide +kernel) rfl (Nat.le_of_ble_eq_true rfl) (fun _ _ _ _ _ _ _ G _ => w_Mo_letterOf G ⟨Nat.le_refl _, Nat.le_refl _⟩ k_this h)
set_option maxHeartbeats 4000000 in
set_option maxRecDepth 100000 in
theorem w_Mo_long1 {p : Program} {l : Launch} {e : Env} {R : Room} {s : State} {m : MethodId} {args : Array Value} {below : List Frame} {meth : Method} {c : Code} {D : va_G} {ca : Nat → ClassId} {b : Nat} {T : Tx} {V : Vx} (G : GX p s m meth c cX10_long1 2 (Option.some Jvm.ClassFile.FieldType.int) RX10 "long1" D ca b) (hR : 0 ≤ R.frames ∧ 0 ≤ R.locals) {this : Nat} {p1 : Int32} {rr : Int32}  (k_this : kd T this = 9) (h : Mo_long1 T V this p1 = some rr) : WG p l e R s m args below meth c D ca b 2 (QG D ca b (some (.int rr)) T V below args s 0 0) 0 0 T V 0 [(0, rv b (some this)), (1, .int p1)] [] := by
  unfold Mo_long1 at h
  refine g_aload_n (pc := 0) G dX10_long1_0 0 rfl ?_
  obtain ⟨r1, e2, h⟩ := bd_e h
  obtain ⟨f3, k4⟩ := ck_e e2
  refine g_getR (pc := 1) G ci_9 (uw_9 G.2.2.2.2.1) (k := 3) (by decide) rfl rfl k_this (q777 G.2.2.2.2.1) dX10_long1_1 f3 ?_
  refine g_bipush (pc := 4) G (v := 84) dX10_long1_4 (by decide) ?_
  refine g_bipush (pc := 6) G (v := 10) dX10_long1_6 (by decide) ?_
  refine g_iload_n (pc := 8) G dX10_long1_8 1 rfl ?_
  refine g_imul (pc := 9) G dX10_long1_9 ?_
  refine g_iadd (pc := 10) G dX10_long1_10 ?_
  refine g_iconst (pc := 11) G (v := 1) dX10_long1_11 (by decide) ?_
  refine g_iadd (pc := 12) G dX10_long1_12 ?_
  obtain ⟨b5, h⟩ := gd_e h
  refine g_iald (pc := 13) G k4 b5 dX10_long1_13 ?_
  cases h
  exact g_iret (pc := 14) G dX10_long1_14
theorem c_Mo_long1 (l : Launch) (D : va_G) (ca : Nat → ClassId) (b : Nat) {T : Tx} {V : Vx} {this : Nat} {p1 : Int32} {rr : Int32}  (k_this : kd T this = 9) (h : Mo_long1 T V this p1 = some rr) : MG l yX10_long1 cX10_long1 2 (Option.some Jvm.ClassFile.FieldType.int) 0 0 0 0 D ca b [rv b (some this), .int p1] T V (some (.int rr)) T V :=
  MG.ofWG (L := [(0, rv b (some this)), (1, .int p1)]) (by decide +kernel) rfl (Nat.le_of_ble_eq_true rfl) (fun _ _ _ _ _ _ _ G _ => w_Mo_long1 G ⟨Nat.le_refl _, Nat.le_refl _⟩ k_this h)
set_option maxHeartbeats 4000000 in
set_option maxRecDepth 100000 in
theorem w_Mo_isVowel {p : Program} {l : Launch} {e : Env} {R : Room} {s : State} {m : MethodId} {args : Array Value} {below : List Frame} {meth : Method} {c : Code} {D : va_G} {ca : Nat → ClassId} {b : Nat} {T : Tx} {V : Vx} (G : GX p s m meth c cX10_isVowel 4 (Option.some Jvm.ClassFile.FieldType.boolean) RX10 "isVowel" D ca b) (hR : 1 ≤ R.frames ∧ 22 ≤ R.locals) {this : Nat} {p1 : Int32} {p2 : Int32} {rr : Int32}  (k_this : kd T this = 9) (h : Mo_isVowel T V this p1 p2 = some rr) : WG p l e R s m args below meth c D ca b 4 (QG D ca b (some (.int rr)) T V below args s 0 0) 0 0 T V 0 [(0, rv b (some this)), (1, .int p1), (2, .int p2)] [] := by
  unfold Mo_isVowel at h
  refine g_aload_n (pc := 0) G dX10_isVowel_0 0 rfl ?_
  refine g_iload_n (pc := 1) G dX10_isVowel_1 1 rfl ?_
  refine g_iload_n (pc := 2) G dX10_isVowel_2 2 rfl ?_
  obtain ⟨r2, e1, h⟩ := bd_e h
  refine g_callV (pc := 3) (As := [.int p1, .int p2]) (rest := []) (st2 := [.int r2]) G (c_Mo_letterOf l D ca b k_this e1) (mb_Mo_letterOf G.2.2.2.2.1) (q969 G.2.2.2.2.1) (q38 G.2.2.2.2.1) (q967 G.2.2.2.2.1) ci_9 k_this rfl rfl (Nat.le_of_ble_eq_true rfl) ⟨Nat.le_trans (Nat.le_of_ble_eq_true rfl) hR.1, Nat.le_trans (Nat.le_of_ble_eq_true rfl) hR.2⟩ ⟨Nat.zero_le _, Nat.zero_le _⟩ rfl rfl dX10_isVowel_3 ?_
  refine g_istore_n (L' := [(3, .int r2), (0, rv b (some this)), (1, .int p1), (2, .int p2)]) (pc := 6) G dX10_isVowel_6 (by decide) rfl ?_
  refine g_iload_n (pc := 7) G dX10_isVowel_7 0 rfl ?_
  refine g_bipush (pc := 8) G (v := 97) dX10_isVowel_8 (by decide) ?_
  refine g_icmp_eq (pc := 10) G 37 dX10_isVowel_10 (by decide) (fun c3 => ?_) (fun c3 => ?_)
  · rw [if_pos c3] at h
    refine g_iconst (pc := 37) G (v := 1) dX10_isVowel_37 (by decide) ?_
    refine g_goto (pc := 38) G 42 dX10_isVowel_38 (by decide) ?_
    cases h
    exact g_zret (pc := 42) G rfl dX10_isVowel_42
  · rw [if_neg c3] at h
    refine g_iload_n (pc := 13) G dX10_isVowel_13 0 rfl ?_
    refine g_bipush (pc := 14) G (v := 101) dX10_isVowel_14 (by decide) ?_
    refine g_icmp_eq (pc := 16) G 37 dX10_isVowel_16 (by decide) (fun c4 => ?_) (fun c4 => ?_)
    · rw [if_pos c4] at h
      refine g_iconst (pc := 37) G (v := 1) dX10_isVowel_37 (by decide) ?_
      refine g_goto (pc := 38) G 42 dX10_isVowel_38 (by decide) ?_
      cases h
      exact g_zret (pc := 42) G rfl dX10_isVowel_42
    · rw [if_neg c4] at h
      refine g_iload_n (pc := 19) G dX10_isVowel_19 0 rfl ?_
      refine g_bipush (pc := 20) G (v := 105) dX10_isVowel_20 (by decide) ?_
      refine g_icmp_eq (pc := 22) G 37 dX10_isVowel_22 (by decide) (fun c5 => ?_) (fun c5 => ?_)
      · rw [if_pos c5] at h
        refine g_iconst (pc := 37) G (v := 1) dX10_isVowel_37 (by decide) ?_
        refine g_goto (pc := 38) G 42 dX10_isVowel_38 (by decide) ?_
        cases h
        exact g_zret (pc := 42) G rfl dX10_isVowel_42
      · rw [if_neg c5] at h
        refine g_iload_n (pc := 25) G dX10_isVowel_25 0 rfl ?_
        refine g_bipush (pc := 26) G (v := 111) dX10_isVowel_26 (by decide) ?_
        refine g_icmp_eq (pc := 28) G 37 dX10_isVowel_28 (by decide) (fun c6 => ?_) (fun c6 => ?_)
        · rw [if_pos c6] at h
          refine g_iconst (pc := 37) G (v := 1) dX10_isVowel_37 (by decide) ?_
          refine g_goto (pc := 38) G 42 dX10_isVowel_38 (by decide) ?_
          cases h
          exact g_zret (pc := 42) G rfl dX10_isVowel_42
        · rw [if_neg c6] at h
          refine g_iload_n (pc := 31) G dX10_isVowel_31 0 rfl ?_
          refine g_bipush (pc := 32) G (v := 117) dX10_isVowel_32 (by decide) ?_
          refine g_icmp_ne (pc := 34) G 41 dX10_isVowel_34 (by decide) (fun c7 => ?_) (fun c7 => ?_)
          · rw [if_neg c7] at h
            refine g_iconst (pc := 41) G (v := 0) dX10_isVowel_41 (by decide) ?_
            cases h
            exact g_zret (pc := 42) G rfl dX10_isVowel_42
          · rw [if_pos c7] at h
            refine g_iconst (pc := 37) G (v := 1) dX10_isVowel_37 (by decide) ?_
            refine g_goto (pc := 38) G 42 dX10_isVowel_38 (by decide) ?_
            cases h
            exact g_zret (pc := 42) G rfl dX10_isVowel_42
theorem c_Mo_isVowel (l : Launch) (D : va_G) (ca : Nat → ClassId) (b : Nat) {T : Tx} {V : Vx} {this : Nat} {p1 : Int32} {p2 : Int32} {rr : Int32}  (k_this : kd T this = 9) (h : Mo_isVowel T V this p1 p2 = some rr) : MG l yX10_isVowel cX10_isVowel 4 (Option.some Jvm.ClassFile.FieldType.boolean) 1 22 0 0 D ca b [rv b (some this), .int p1, .int p2] T V (some (.int rr)) T V :=
  MG.ofWG (L := [(0, rv b (some this)), (1, .int p1), (2, .int p2)]) (by decide +kernel) rfl (Nat.le_of_ble_eq_true rfl) (fun _ _ _ _ _ _ _ G _ => w_Mo_isVowel G ⟨Nat.le_refl _, Nat.le_refl _⟩ k_this h)
set_option maxHeartbeats 4000000 in
set_option maxRecDepth 100000 in
theorem w_Mo_soundLong {p : Program} {l : Launch} {e : Env} {R : Room} {s : State} {m : MethodId} {args : Array Value} {below : List Frame} {meth : Method} {c : Code} {D : va_G} {ca : Nat → ClassId} {b : Nat} {T : Tx} {V : Vx} (G : GX p s m meth c cX10_soundLong 2 (Option.some Jvm.ClassFile.FieldType.int) RX10 "soundLong" D ca b) (hR : 0 ≤ R.frames ∧ 0 ≤ R.locals) {this : Nat} {p1 : Int32} {rr : Int32}  (k_this : kd T this = 9) (h : Mo_soundLong T V this p1 = some rr) : WG p l e R s m args below meth c D ca b 2 (QG D ca b (some (.int rr)) T V below args s 0 0) 0 0 T V 0 [(0, rv b (some this)), (1, .int p1)] [] := by
  unfold Mo_soundLong at h
  refine g_aload_n (pc := 0) G dX10_soundLong_0 0 rfl ?_
  obtain ⟨r1, e2, h⟩ := bd_e h
  obtain ⟨f3, k4⟩ := ck_e e2
  refine g_getR (pc := 1) G ci_9 (uw_9 G.2.2.2.2.1) (k := 3) (by decide) rfl rfl k_this (q777 G.2.2.2.2.1) dX10_soundLong_1 f3 ?_
  refine g_bipush (pc := 4) G (v := 7) dX10_soundLong_4 (by decide) ?_
  refine g_iload_n (pc := 6) G dX10_soundLong_6 1 rfl ?_
  refine g_imul (pc := 7) G dX10_soundLong_7 ?_
  refine g_iconst (pc := 8) G (v := 2) dX10_soundLong_8 (by decide) ?_
  refine g_iadd (pc := 9) G dX10_soundLong_9 ?_
  obtain ⟨b5, h⟩ := gd_e h
  refine g_iald (pc := 10) G k4 b5 dX10_soundLong_10 ?_
  cases h
  exact g_iret (pc := 11) G dX10_soundLong_11
theorem c_Mo_soundLong (l : Launch) (D : va_G) (ca : Nat → ClassId) (b : Nat) {T : Tx} {V : Vx} {this : Nat} {p1 : Int32} {rr : Int32}  (k_this : kd T this = 9) (h : Mo_soundLong T V this p1 = some rr) : MG l yX10_soundLong cX10_soundLong 2 (Option.some Jvm.ClassFile.FieldType.int) 0 0 0 0 D ca b [rv b (some this), .int p1] T V (some (.int rr)) T V :=
  MG.ofWG (L := [(0, rv b (some this)), (1, .int p1)]) (by decide +kernel) rfl (Nat.le_of_ble_eq_true rfl) (fun _ _ _ _ _ _ _ G _ => w_Mo_soundLong G ⟨Nat.le_refl _, Nat.le_refl _⟩ k_this h)
set_option maxHeartbeats 4000000 in
set_option maxRecDepth 100000 in
theorem w_Mo_lies {p : Program} {l : Launch} {e : Env} {R : Room} {s : State} {m : MethodId} {args : Array Value} {below : List Frame} {meth : Method} {c : Code} {D : va_G} {ca : Nat → ClassId} {b : Nat} {T : Tx} {V : Vx} (G : GX p s m meth c cX10_lies 6 (Option.some Jvm.ClassFile.FieldType.boolean) RX10 "lies" D ca b) (hR : 1 ≤ R.frames ∧ 22 ≤ R.locals) {this : Nat} {p1 : Int32} {p2 : Int32} {p3 : Int32} {rr : Int32}  (k_this : kd T this = 9) (h : Mo_lies T V this p1 p2 p3 = some rr) : WG p l e R s m args below meth c D ca b 6 (QG D ca b (some (.int rr)) T V below args s 0 0) 0 0 T V 0 [(0, rv b (some this)), (1, .int p1), (2, .int p2), (3, .int p3)] [] := by
  unfold Mo_lies at h
  refine g_iload_n (pc := 0) G dX10_lies_0 2 rfl ?_
  refine g_aload_n (pc := 1) G dX10_lies_1 0 rfl ?_
  refine g_iload_n (pc := 2) G dX10_lies_2 3 rfl ?_
  obtain ⟨r2, e1, h⟩ := bd_e h
  refine g_callV (pc := 3) (As := [.int p3]) (rest := [.int p2]) (st2 := [.int r2, .int p2]) G (c_Mo_soundLong l D ca b k_this e1) (mb_Mo_soundLong G.2.2.2.2.1) (q977 G.2.2.2.2.1) (q40 G.2.2.2.2.1) (q975 G.2.2.2.2.1) ci_9 k_this rfl rfl (Nat.le_of_ble_eq_true rfl) ⟨Nat.le_trans (Nat.le_of_ble_eq_true rfl) hR.1, Nat.le_trans (Nat.le_of_ble_eq_true rfl) hR.2⟩ ⟨Nat.zero_le _, Nat.zero_le _⟩ rfl rfl dX10_lies_3 ?_
  refine g_iadd (pc := 6) G dX10_lies_6 ?_
  refine g_aload_n (pc := 7) G dX10_lies_7 0 rfl ?_
  refine g_iload_n (pc := 8) G dX10_lies_8 1 rfl ?_
  obtain ⟨r4, e3, h⟩ := bd_e h
  refine g_callV (pc := 9) (As := [.int p1]) (rest := [.int (p2 + r2)]) (st2 := [.int r4, .int (p2 + r2)]) G (c_Mo_long1 l D ca b k_this e3) (mb_Mo_long1 G.2.2.2.2.1) (q961 G.2.2.2.2.1) (q36 G.2.2.2.2.1) (q959 G.2.2.2.2.1) ci_9 k_this rfl rfl (Nat.le_of_ble_eq_true rfl) ⟨Nat.le_trans (Nat.le_of_ble_eq_true rfl) hR.1, Nat.le_trans (Nat.le_of_ble_eq_true rfl) hR.2⟩ ⟨Nat.zero_le _, Nat.zero_le _⟩ rfl rfl dX10_lies_9 ?_
  obtain ⟨x5, hx7, h⟩ := bd_e h
  have K6 : WG p l e R s m args below meth c D ca b 6 (QG D ca b (some (.int rr)) T V below args s 0 0) 0 0 T V 20 [(0, rv b (some this)), (1, .int p1), (2, .int p2), (3, .int p3)] [.int x5] := by
    refine g_istore (L' := [(4, .int x5), (0, rv b (some this)), (1, .int p1), (2, .int p2), (3, .int p3)]) (pc := 20) G dX10_lies_20 (by decide) rfl ?_
    refine g_iconst (pc := 22) G (v := 0) dX10_lies_22 (by decide) ?_
    refine g_istore (L' := [(5, .int 0), (4, .int x5), (0, rv b (some this)), (1, .int p1), (2, .int p2), (3, .int p3)]) (pc := 23) G dX10_lies_23 (by decide) rfl ?_
    have LP14 : ∀ (n10 : Nat) (v11 : Int32) (v12 : Int32), Mo_lies_L25 T V this p1 p2 p3 n10 v11 v12 = some rr → WG p l e R s m args below meth c D ca b 6 (QG D ca b (some (.int rr)) T V below args s 0 0) 0 0 T V 25 [(0, rv b (some this)), (1, .int p1), (2, .int p2), (3, .int p3), (4, .int v11), (5, .int v12)] [] := by
      intro n10
      induction n10 with
      | zero =>
        intro v11 v12 h
        cases h
      | succ n10 ih13 =>
        intro v11 v12 h
        rw [Mo_lies_L25] at h
        refine g_iload (pc := 25) G dX10_lies_25 5 rfl ?_
        refine g_aload_n (pc := 27) G dX10_lies_27 0 rfl ?_
        refine g_iload_n (pc := 28) G dX10_lies_28 3 rfl ?_
        obtain ⟨r16, e15, h⟩ := bd_e h
        refine g_callV (pc := 29) (As := [.int p3]) (rest := [.int v12]) (st2 := [.int r16, .int v12]) G (c_Mo_soundLong l D ca b k_this e15) (mb_Mo_soundLong G.2.2.2.2.1) (q977 G.2.2.2.2.1) (q40 G.2.2.2.2.1) (q975 G.2.2.2.2.1) ci_9 k_this rfl rfl (Nat.le_of_ble_eq_true rfl) ⟨Nat.le_trans (Nat.le_of_ble_eq_true rfl) hR.1, Nat.le_trans (Nat.le_of_ble_eq_true rfl) hR.2⟩ ⟨Nat.zero_le _, Nat.zero_le _⟩ rfl rfl dX10_lies_29 ?_
        refine g_icmp_ge (pc := 32) G 79 dX10_lies_32 (by decide) (fun c17 => ?_) (fun c17 => ?_)
        · rw [if_pos c17] at h
          refine g_iload (pc := 79) G dX10_lies_79 4 rfl ?_
          obtain ⟨z18, h⟩ := gd_e h
          cases h
          exact g_zret (pc := 81) G z18 dX10_lies_81
        · rw [if_neg c17] at h
          refine g_iload (pc := 35) G dX10_lies_35 4 rfl ?_
          refine g_if_eq (pc := 37) G 79 dX10_lies_37 (by decide) (fun c19 => ?_) (fun c19 => ?_)
          · rw [if_pos c19] at h
            refine g_iload (pc := 79) G dX10_lies_79 4 rfl ?_
            obtain ⟨z20, h⟩ := gd_e h
            cases h
            exact g_zret (pc := 81) G z20 dX10_lies_81
          · rw [if_neg c19] at h
            refine g_aload_n (pc := 40) G dX10_lies_40 0 rfl ?_
            refine g_iload_n (pc := 41) G dX10_lies_41 1 rfl ?_
            refine g_iload_n (pc := 42) G dX10_lies_42 2 rfl ?_
            refine g_iload (pc := 43) G dX10_lies_43 5 rfl ?_
            refine g_iadd (pc := 45) G dX10_lies_45 ?_
            obtain ⟨r22, e21, h⟩ := bd_e h
            refine g_callV (pc := 46) (As := [.int p1, .int (p2 + v12)]) (rest := []) (st2 := [.int r22]) G (c_Mo_letterOf l D ca b k_this e21) (mb_Mo_letterOf G.2.2.2.2.1) (q969 G.2.2.2.2.1) (q38 G.2.2.2.2.1) (q967 G.2.2.2.2.1) ci_9 k_this rfl rfl (Nat.le_of_ble_eq_true rfl) ⟨Nat.le_trans (Nat.le_of_ble_eq_true rfl) hR.1, Nat.le_trans (Nat.le_of_ble_eq_true rfl) hR.2⟩ ⟨Nat.zero_le _, Nat.zero_le _⟩ rfl rfl dX10_lies_46 ?_
            refine g_aload_n (pc := 49) G dX10_lies_49 0 rfl ?_
            obtain ⟨r23, e24, h⟩ := bd_e h
            obtain ⟨f25, k26⟩ := ck_e e24
            refine g_getR (pc := 50) G ci_9 (uw_9 G.2.2.2.2.1) (k := 3) (by decide) rfl rfl k_this (q777 G.2.2.2.2.1) dX10_lies_50 f25 ?_
            refine g_bipush (pc := 53) G (v := 7) dX10_lies_53 (by decide) ?_
            refine g_iload_n (pc := 55) G dX10_lies_55 3 rfl ?_
            refine g_imul (pc := 56) G dX10_lies_56 ?_
            refine g_iconst (pc := 57) G (v := 3) dX10_lies_57 (by decide) ?_
            refine g_iadd (pc := 58) G dX10_lies_58 ?_
            refine g_iload (pc := 59) G dX10_lies_59 5 rfl ?_
            refine g_iadd (pc := 61) G dX10_lies_61 ?_
            obtain ⟨b27, h⟩ := gd_e h
            refine g_iald (pc := 62) G k26 b27 dX10_lies_62 ?_
            refine g_icmp_ne (pc := 63) G 70 dX10_lies_63 (by decide) (fun c28 => ?_) (fun c28 => ?_)
            · rw [if_neg c28] at h
              refine g_iconst (pc := 70) G (v := 0) dX10_lies_70 (by decide) ?_
              refine g_istore (L' := [(4, .int 0), (0, rv b (some this)), (1, .int p1), (2, .int p2), (3, .int p3), (5, .int v12)]) (pc := 71) G dX10_lies_71 (by decide) rfl ?_
              refine g_iinc (v := v12 + 1) (L' := [(5, .int (v12 + 1)), (4, .int 0), (0, rv b (some this)), (1, .int p1), (2, .int p2), (3, .int p3)]) (pc := 73) G dX10_lies_73 5 rfl rfl (by decide) rfl ?_
              refine g_goto (pc := 76) G 25 dX10_lies_76 (by decide) ?_
              exact g_sub [2, 3, 4, 5, 1, 0] rfl (ih13 _ _ h)
            · rw [if_pos c28] at h
              refine g_iconst (pc := 66) G (v := 1) dX10_lies_66 (by decide) ?_
              refine g_goto (pc := 67) G 71 dX10_lies_67 (by decide) ?_
              refine g_istore (L' := [(4, .int 1), (0, rv b (some this)), (1, .int p1), (2, .int p2), (3, .int p3), (5, .int v12)]) (pc := 71) G dX10_lies_71 (by decide) rfl ?_
              refine g_iinc (v := v12 + 1) (L' := [(5, .int (v12 + 1)), (4, .int 1), (0, rv b (some this)), (1, .int p1), (2, .int p2), (3, .int p3)]) (pc := 73) G dX10_lies_73 5 rfl rfl (by decide) rfl ?_
              refine g_goto (pc := 76) G 25 dX10_lies_76 (by decide) ?_
              exact g_sub [2, 3, 4, 5, 1, 0] rfl (ih13 _ _ h)
    exact g_sub [2, 3, 4, 5, 1, 0] rfl (LP14 _ _ _ h)
  refine g_icmp_gt (pc := 12) G 19 dX10_lies_12 (by decide) (fun c9 => ?_) (fun c9 => ?_)
  · rw [if_pos c9] at hx7
    refine g_iconst (pc := 19) G (v := 0) dX10_lies_19 (by decide) ?_
    cases hx7
    exact g_sub [0, 1, 2, 3] rfl K6
  · rw [if_neg c9] at hx7
    refine g_iconst (pc := 15) G (v := 1) dX10_lies_15 (by decide) ?_
    refine g_goto (pc := 16) G 20 dX10_lies_16 (by decide) ?_
    cases hx7
    exact g_sub [0, 1, 2, 3] rfl K6
theorem c_Mo_lies (l : Launch) (D : va_G) (ca : Nat → ClassId) (b : Nat) {T : Tx} {V : Vx} {this : Nat} {p1 : Int32} {p2 : Int32} {p3 : Int32} {rr : Int32}  (k_this : kd T this = 9) (h : Mo_lies T V this p1 p2 p3 = some rr) : MG l yX10_lies cX10_lies 6 (Option.some Jvm.ClassFile.FieldType.boolean) 1 22 0 0 D ca b [rv b (some this), .int p1, .int p2, .int p3] T V (some (.int rr)) T V :=
  MG.ofWG (L := [(0, rv b (some this)), (1, .int p1), (2, .int p2), (3, .int p3)]) (by decide +kernel) rfl (Nat.le_of_ble_eq_true rfl) (fun _ _ _ _ _ _ _ G _ => w_Mo_lies G ⟨Nat.le_refl _, Nat.le_refl _⟩ k_this h)
set_option maxHeartbeats 4000000 in
set_option maxRecDepth 100000 in
theorem w_Mo_skips {p : Program} {l : Launch} {e : Env} {R : Room} {s : State} {m : MethodId} {args : Array Value} {below : List Frame} {meth : Method} {c : Code} {D : va_G} {ca : Nat → ClassId} {b : Nat} {T : Tx} {V : Vx} (G : GX p s m meth c cX10_skips 5 (Option.some Jvm.ClassFile.FieldType.int) RX10 "skips" D ca b) (hR : 2 ≤ R.frames ∧ 45 ≤ R.locals) {this : Nat} {p1 : Int32} {p2 : Int32} {rr : Int32}  (k_this : kd T this = 9) (h : Mo_skips T V this p1 p2 = some rr) : WG p l e R s m args below meth c D ca b 5 (QG D ca b (some (.int rr)) T V below args s 0 0) 0 0 T V 0 [(0, rv b (some this)), (1, .int p1), (2, .int p2)] [] := by
  unfold Mo_skips at h
  refine g_iload_n (pc := 0) G dX10_skips_0 2 rfl ?_
  refine g_istore_n (L' := [(3, .int p2), (0, rv b (some this)), (1, .int p1), (2, .int p2)]) (pc := 1) G dX10_skips_1 (by decide) rfl ?_
  refine g_iconst (pc := 2) G (v := 0) dX10_skips_2 (by decide) ?_
  refine g_istore (L' := [(4, .int 0), (3, .int p2), (0, rv b (some this)), (1, .int p1), (2, .int p2)]) (pc := 3) G dX10_skips_3 (by decide) rfl ?_
  have LP5 : ∀ (n1 : Nat) (v2 : Int32) (v3 : Int32), Mo_skips_L5 T V this p1 n1 v2 v3 = some rr → WG p l e R s m args below meth c D ca b 5 (QG D ca b (some (.int rr)) T V below args s 0 0) 0 0 T V 5 [(0, rv b (some this)), (1, .int p1), (3, .int v2), (4, .int v3)] [] := by
    intro n1
    induction n1 with
    | zero =>
      intro v2 v3 h
      cases h
    | succ n1 ih4 =>
      intro v2 v3 h
      rw [Mo_skips_L5] at h
      refine g_iload (pc := 5) G dX10_skips_5 3 rfl ?_
      refine g_aload_n (pc := 7) G dX10_skips_7 0 rfl ?_
      refine g_iload_n (pc := 8) G dX10_skips_8 1 rfl ?_
      obtain ⟨r7, e6, h⟩ := bd_e h
      refine g_callV (pc := 9) (As := [.int p1]) (rest := [.int v3]) (st2 := [.int r7, .int v3]) G (c_Mo_long1 l D ca b k_this e6) (mb_Mo_long1 G.2.2.2.2.1) (q961 G.2.2.2.2.1) (q36 G.2.2.2.2.1) (q959 G.2.2.2.2.1) ci_9 k_this rfl rfl (Nat.le_of_ble_eq_true rfl) ⟨Nat.le_trans (Nat.le_of_ble_eq_true rfl) hR.1, Nat.le_trans (Nat.le_of_ble_eq_true rfl) hR.2⟩ ⟨Nat.zero_le _, Nat.zero_le _⟩ rfl rfl dX10_skips_9 ?_
      refine g_icmp_ge (pc := 12) G 64 dX10_skips_12 (by decide) (fun c8 => ?_) (fun c8 => ?_)
      · rw [if_pos c8] at h
        refine g_iload_n (pc := 64) G dX10_skips_64 2 rfl ?_
        cases h
        exact g_iret (pc := 65) G dX10_skips_65
      · rw [if_neg c8] at h
        refine g_aload_n (pc := 15) G dX10_skips_15 0 rfl ?_
        obtain ⟨r9, e10, h⟩ := bd_e h
        obtain ⟨f11, k12⟩ := ck_e e10
        refine g_getR (pc := 16) G ci_9 (uw_9 G.2.2.2.2.1) (k := 5) (by decide) rfl rfl k_this (q779 G.2.2.2.2.1) dX10_skips_16 f11 ?_
        refine g_iconst (pc := 19) G (v := 0) dX10_skips_19 (by decide) ?_
        obtain ⟨b13, h⟩ := gd_e h
        refine g_iald (pc := 20) G k12 b13 dX10_skips_20 ?_
        refine g_iconst (pc := 21) G (v := 1) dX10_skips_21 (by decide) ?_
        refine g_icmp_ne (pc := 22) G 64 dX10_skips_22 (by decide) (fun c14 => ?_) (fun c14 => ?_)
        · rw [if_neg c14] at h
          refine g_iload_n (pc := 64) G dX10_skips_64 2 rfl ?_
          cases h
          exact g_iret (pc := 65) G dX10_skips_65
        · rw [if_pos c14] at h
          refine g_iload_n (pc := 25) G dX10_skips_25 2 rfl ?_
          refine g_iload_n (pc := 26) G dX10_skips_26 2 rfl ?_
          refine g_iload (pc := 27) G dX10_skips_27 3 rfl ?_
          refine g_ishr (pc := 29) G dX10_skips_29 ?_
          refine g_iconst (pc := 30) G (v := 1) dX10_skips_30 (by decide) ?_
          refine g_iand (pc := 31) G dX10_skips_31 ?_
          refine g_iconst (pc := 32) G (v := 1) dX10_skips_32 (by decide) ?_
          refine g_icmp_ne (pc := 33) G 55 dX10_skips_33 (by decide) (fun c15 => ?_) (fun c15 => ?_)
          · rw [if_neg c15] at h
            refine g_iconst (pc := 55) G (v := 0) dX10_skips_55 (by decide) ?_
            refine g_ior (pc := 56) G dX10_skips_56 ?_
            obtain ⟨x16, e17, h⟩ := lt_e h
            rw [e17]
            refine g_istore_n (L' := [(3, .int x16), (0, rv b (some this)), (1, .int p1), (4, .int v3)]) (pc := 57) G dX10_skips_57 (by decide) rfl ?_
            refine g_iinc (v := v3 + 1) (L' := [(4, .int (v3 + 1)), (3, .int x16), (0, rv b (some this)), (1, .int p1)]) (pc := 58) G dX10_skips_58 3 rfl rfl (by decide) rfl ?_
            refine g_goto (pc := 61) G 5 dX10_skips_61 (by decide) ?_
            exact g_sub [2, 3, 1, 0] rfl (ih4 _ _ h)
          · rw [if_pos c15] at h
            refine g_aload_n (pc := 36) G dX10_skips_36 0 rfl ?_
            refine g_iload_n (pc := 37) G dX10_skips_37 1 rfl ?_
            refine g_iload (pc := 38) G dX10_skips_38 3 rfl ?_
            obtain ⟨r19, e18, h⟩ := bd_e h
            refine g_callV (pc := 40) (As := [.int p1, .int v3]) (rest := [.int v2]) (st2 := [.int r19, .int v2]) G (c_Mo_isVowel l D ca b k_this e18) (mb_Mo_isVowel G.2.2.2.2.1) (q965 G.2.2.2.2.1) (q37 G.2.2.2.2.1) (q963 G.2.2.2.2.1) ci_9 k_this rfl rfl (Nat.le_of_ble_eq_true rfl) ⟨Nat.le_trans (Nat.le_of_ble_eq_true rfl) hR.1, Nat.le_trans (Nat.le_of_ble_eq_true rfl) hR.2⟩ ⟨Nat.zero_le _, Nat.zero_le _⟩ rfl rfl dX10_skips_40 ?_
            refine g_if_eq (pc := 43) G 55 dX10_skips_43 (by decide) (fun c20 => ?_) (fun c20 => ?_)
            · rw [if_pos c20] at h
              refine g_iconst (pc := 55) G (v := 0) dX10_skips_55 (by decide) ?_
              refine g_ior (pc := 56) G dX10_skips_56 ?_
              obtain ⟨x21, e22, h⟩ := lt_e h
              rw [e22]
              refine g_istore_n (L' := [(3, .int x21), (0, rv b (some this)), (1, .int p1), (4, .int v3)]) (pc := 57) G dX10_skips_57 (by decide) rfl ?_
              refine g_iinc (v := v3 + 1) (L' := [(4, .int (v3 + 1)), (3, .int x21), (0, rv b (some this)), (1, .int p1)]) (pc := 58) G dX10_skips_58 3 rfl rfl (by decide) rfl ?_
              refine g_goto (pc := 61) G 5 dX10_skips_61 (by decide) ?_
              exact g_sub [2, 3, 1, 0] rfl (ih4 _ _ h)
            · rw [if_neg c20] at h
              refine g_iconst (pc := 46) G (v := 1) dX10_skips_46 (by decide) ?_
              refine g_iload (pc := 47) G dX10_skips_47 3 rfl ?_
              refine g_iconst (pc := 49) G (v := 1) dX10_skips_49 (by decide) ?_
              refine g_iadd (pc := 50) G dX10_skips_50 ?_
              refine g_ishl (pc := 51) G dX10_skips_51 ?_
              refine g_goto (pc := 52) G 56 dX10_skips_52 (by decide) ?_
              refine g_ior (pc := 56) G dX10_skips_56 ?_
              obtain ⟨x23, e24, h⟩ := lt_e h
              rw [e24]
              refine g_istore_n (L' := [(3, .int x23), (0, rv b (some this)), (1, .int p1), (4, .int v3)]) (pc := 57) G dX10_skips_57 (by decide) rfl ?_
              refine g_iinc (v := v3 + 1) (L' := [(4, .int (v3 + 1)), (3, .int x23), (0, rv b (some this)), (1, .int p1)]) (pc := 58) G dX10_skips_58 3 rfl rfl (by decide) rfl ?_
              refine g_goto (pc := 61) G 5 dX10_skips_61 (by decide) ?_
              exact g_sub [2, 3, 1, 0] rfl (ih4 _ _ h)
  exact g_sub [2, 3, 1, 0] rfl (LP5 _ _ _ h)
theorem c_Mo_skips (l : Launch) (D : va_G) (ca : Nat → ClassId) (b : Nat) {T : Tx} {V : Vx} {this : Nat} {p1 : Int32} {p2 : Int32} {rr : Int32}  (k_this : kd T this = 9) (h : Mo_skips T V this p1 p2 = some rr) : MG l yX10_skips cX10_skips 5 (Option.some Jvm.ClassFile.FieldType.int) 2 45 0 0 D ca b [rv b (some this), .int p1, .int p2] T V (some (.int rr)) T V :=
  MG.ofWG (L := [(0, rv b (some this)), (1, .int p1), (2, .int p2)]) (by decide +kernel) rfl (Nat.le_of_ble_eq_true rfl) (fun _ _ _ _ _ _ _ G _ => w_Mo_skips G ⟨Nat.le_refl _, Nat.le_refl _⟩ k_this h)
set_option maxHeartbeats 4000000 in
set_option maxRecDepth 100000 in
theorem w_Mo_steps {p : Program} {l : Launch} {e : Env} {R : Room} {s : State} {m : MethodId} {args : Array Value} {below : List Frame} {meth : Method} {c : Code} {D : va_G} {ca : Nat → ClassId} {b : Nat} {T : Tx} {V : Vx} (G : GX p s m meth c cX10_steps 7 (Option.some Jvm.ClassFile.FieldType.int) RX10 "steps" D ca b) (hR : 3 ≤ R.frames ∧ 69 ≤ R.locals) {this : Nat} {p1 : Int32} {p2 : Int32} {p3 : Int32} {rr : Int32}  (k_this : kd T this = 9) (h : Mo_steps T V this p1 p2 p3 = some rr) : WG p l e R s m args below meth c D ca b 7 (QG D ca b (some (.int rr)) T V below args s 0 0) 0 0 T V 0 [(0, rv b (some this)), (1, .int p1), (2, .int p2), (3, .int p3)] [] := by
  unfold Mo_steps at h
  refine g_aload_n (pc := 0) G dX10_steps_0 0 rfl ?_
  refine g_iload_n (pc := 1) G dX10_steps_1 1 rfl ?_
  refine g_iload_n (pc := 2) G dX10_steps_2 2 rfl ?_
  obtain ⟨r2, e1, h⟩ := bd_e h
  refine g_callV (pc := 3) (As := [.int p1, .int p2]) (rest := []) (st2 := [.int r2]) G (c_Mo_skips l D ca b k_this e1) (mb_Mo_skips G.2.2.2.2.1) (q957 G.2.2.2.2.1) (q35 G.2.2.2.2.1) (q955 G.2.2.2.2.1) ci_9 k_this rfl rfl (Nat.le_of_ble_eq_true rfl) ⟨Nat.le_trans (Nat.le_of_ble_eq_true rfl) hR.1, Nat.le_trans (Nat.le_of_ble_eq_true rfl) hR.2⟩ ⟨Nat.zero_le _, Nat.zero_le _⟩ rfl rfl dX10_steps_3 ?_
  refine g_istore (L' := [(4, .int r2), (0, rv b (some this)), (1, .int p1), (2, .int p2), (3, .int p3)]) (pc := 6) G dX10_steps_6 (by decide) rfl ?_
  refine g_iconst (pc := 8) G (v := 0) dX10_steps_8 (by decide) ?_
  refine g_istore (L' := [(5, .int 0), (4, .int r2), (0, rv b (some this)), (1, .int p1), (2, .int p2), (3, .int p3)]) (pc := 9) G dX10_steps_9 (by decide) rfl ?_
  refine g_iconst (pc := 11) G (v := 0) dX10_steps_11 (by decide) ?_
  refine g_istore (L' := [(6, .int 0), (5, .int 0), (4, .int r2), (0, rv b (some this)), (1, .int p1), (2, .int p2), (3, .int p3)]) (pc := 12) G dX10_steps_12 (by decide) rfl ?_
  have LP7 : ∀ (n3 : Nat) (v4 : Int32) (v5 : Int32), Mo_steps_L14 T V this p1 p3 r2 n3 v4 v5 = some rr → WG p l e R s m args below meth c D ca b 7 (QG D ca b (some (.int rr)) T V below args s 0 0) 0 0 T V 14 [(0, rv b (some this)), (1, .int p1), (3, .int p3), (4, .int r2), (5, .int v4), (6, .int v5)] [] := by
    intro n3
    induction n3 with
    | zero =>
      intro v4 v5 h
      cases h
    | succ n3 ih6 =>
      intro v4 v5 h
      rw [Mo_steps_L14] at h
      refine g_iload (pc := 14) G dX10_steps_14 5 rfl ?_
      refine g_aload_n (pc := 16) G dX10_steps_16 0 rfl ?_
      refine g_iload_n (pc := 17) G dX10_steps_17 1 rfl ?_
      obtain ⟨r9, e8, h⟩ := bd_e h
      refine g_callV (pc := 18) (As := [.int p1]) (rest := [.int v5]) (st2 := [.int r9, .int v5]) G (c_Mo_long1 l D ca b k_this e8) (mb_Mo_long1 G.2.2.2.2.1) (q961 G.2.2.2.2.1) (q36 G.2.2.2.2.1) (q959 G.2.2.2.2.1) ci_9 k_this rfl rfl (Nat.le_of_ble_eq_true rfl) ⟨Nat.le_trans (Nat.le_of_ble_eq_true rfl) hR.1, Nat.le_trans (Nat.le_of_ble_eq_true rfl) hR.2⟩ ⟨Nat.zero_le _, Nat.zero_le _⟩ rfl rfl dX10_steps_18 ?_
      refine g_icmp_ge (pc := 21) G 71 dX10_steps_21 (by decide) (fun c10 => ?_) (fun c10 => ?_)
      · rw [if_pos c10] at h
        refine g_iload (pc := 71) G dX10_steps_71 4 rfl ?_
        cases h
        exact g_iret (pc := 73) G dX10_steps_73
      · rw [if_neg c10] at h
        refine g_iload (pc := 24) G dX10_steps_24 4 rfl ?_
        refine g_iload (pc := 26) G dX10_steps_26 3 rfl ?_
        refine g_iload (pc := 28) G dX10_steps_28 5 rfl ?_
        refine g_ishr (pc := 30) G dX10_steps_30 ?_
        refine g_iconst (pc := 31) G (v := 1) dX10_steps_31 (by decide) ?_
        refine g_iand (pc := 32) G dX10_steps_32 ?_
        refine g_iconst (pc := 33) G (v := 1) dX10_steps_33 (by decide) ?_
        refine g_icmp_ne (pc := 34) G 61 dX10_steps_34 (by decide) (fun c11 => ?_) (fun c11 => ?_)
        · rw [if_neg c11] at h
          refine g_iconst (pc := 61) G (v := 0) dX10_steps_61 (by decide) ?_
          refine g_ior (pc := 62) G dX10_steps_62 ?_
          obtain ⟨x12, e13, h⟩ := lt_e h
          rw [e13]
          refine g_istore (L' := [(5, .int x12), (0, rv b (some this)), (1, .int p1), (3, .int p3), (4, .int r2), (6, .int v5)]) (pc := 63) G dX10_steps_63 (by decide) rfl ?_
          refine g_iinc (v := v5 + 1) (L' := [(6, .int (v5 + 1)), (5, .int x12), (0, rv b (some this)), (1, .int p1), (3, .int p3), (4, .int r2)]) (pc := 65) G dX10_steps_65 5 rfl rfl (by decide) rfl ?_
          refine g_goto (pc := 68) G 14 dX10_steps_68 (by decide) ?_
          exact g_sub [2, 3, 4, 5, 1, 0] rfl (ih6 _ _ h)
        · rw [if_pos c11] at h
          refine g_aload_n (pc := 37) G dX10_steps_37 0 rfl ?_
          refine g_iload_n (pc := 38) G dX10_steps_38 1 rfl ?_
          refine g_iload (pc := 39) G dX10_steps_39 5 rfl ?_
          refine g_iload_n (pc := 41) G dX10_steps_41 2 rfl ?_
          obtain ⟨r15, e14, h⟩ := bd_e h
          refine g_callV (pc := 42) (As := [.int p1, .int v5, .int p3]) (rest := [.int v4]) (st2 := [.int r15, .int v4]) G (c_Mo_lies l D ca b k_this e14) (mb_Mo_lies G.2.2.2.2.1) (q973 G.2.2.2.2.1) (q39 G.2.2.2.2.1) (q971 G.2.2.2.2.1) ci_9 k_this rfl rfl (Nat.le_of_ble_eq_true rfl) ⟨Nat.le_trans (Nat.le_of_ble_eq_true rfl) hR.1, Nat.le_trans (Nat.le_of_ble_eq_true rfl) hR.2⟩ ⟨Nat.zero_le _, Nat.zero_le _⟩ rfl rfl dX10_steps_42 ?_
          refine g_if_eq (pc := 45) G 61 dX10_steps_45 (by decide) (fun c16 => ?_) (fun c16 => ?_)
          · rw [if_pos c16] at h
            refine g_iconst (pc := 61) G (v := 0) dX10_steps_61 (by decide) ?_
            refine g_ior (pc := 62) G dX10_steps_62 ?_
            obtain ⟨x17, e18, h⟩ := lt_e h
            rw [e18]
            refine g_istore (L' := [(5, .int x17), (0, rv b (some this)), (1, .int p1), (3, .int p3), (4, .int r2), (6, .int v5)]) (pc := 63) G dX10_steps_63 (by decide) rfl ?_
            refine g_iinc (v := v5 + 1) (L' := [(6, .int (v5 + 1)), (5, .int x17), (0, rv b (some this)), (1, .int p1), (3, .int p3), (4, .int r2)]) (pc := 65) G dX10_steps_65 5 rfl rfl (by decide) rfl ?_
            refine g_goto (pc := 68) G 14 dX10_steps_68 (by decide) ?_
            exact g_sub [2, 3, 4, 5, 1, 0] rfl (ih6 _ _ h)
          · rw [if_neg c16] at h
            refine g_iconst (pc := 48) G (v := 1) dX10_steps_48 (by decide) ?_
            refine g_iload (pc := 49) G dX10_steps_49 5 rfl ?_
            refine g_aload_n (pc := 51) G dX10_steps_51 0 rfl ?_
            refine g_iload_n (pc := 52) G dX10_steps_52 2 rfl ?_
            obtain ⟨r20, e19, h⟩ := bd_e h
            refine g_callV (pc := 53) (As := [.int p3]) (rest := [.int v5, .int 1, .int v4]) (st2 := [.int r20, .int v5, .int 1, .int v4]) G (c_Mo_soundLong l D ca b k_this e19) (mb_Mo_soundLong G.2.2.2.2.1) (q977 G.2.2.2.2.1) (q40 G.2.2.2.2.1) (q975 G.2.2.2.2.1) ci_9 k_this rfl rfl (Nat.le_of_ble_eq_true rfl) ⟨Nat.le_trans (Nat.le_of_ble_eq_true rfl) hR.1, Nat.le_trans (Nat.le_of_ble_eq_true rfl) hR.2⟩ ⟨Nat.zero_le _, Nat.zero_le _⟩ rfl rfl dX10_steps_53 ?_
            refine g_iadd (pc := 56) G dX10_steps_56 ?_
            refine g_ishl (pc := 57) G dX10_steps_57 ?_
            refine g_goto (pc := 58) G 62 dX10_steps_58 (by decide) ?_
            refine g_ior (pc := 62) G dX10_steps_62 ?_
            obtain ⟨x21, e22, h⟩ := lt_e h
            rw [e22]
            refine g_istore (L' := [(5, .int x21), (0, rv b (some this)), (1, .int p1), (3, .int p3), (4, .int r2), (6, .int v5)]) (pc := 63) G dX10_steps_63 (by decide) rfl ?_
            refine g_iinc (v := v5 + 1) (L' := [(6, .int (v5 + 1)), (5, .int x21), (0, rv b (some this)), (1, .int p1), (3, .int p3), (4, .int r2)]) (pc := 65) G dX10_steps_65 5 rfl rfl (by decide) rfl ?_
            refine g_goto (pc := 68) G 14 dX10_steps_68 (by decide) ?_
            exact g_sub [2, 3, 4, 5, 1, 0] rfl (ih6 _ _ h)
  exact g_sub [3, 4, 6, 2, 1, 0] rfl (LP7 _ _ _ h)
theorem c_Mo_steps (l : Launch) (D : va_G) (ca : Nat → ClassId) (b : Nat) {T : Tx} {V : Vx} {this : Nat} {p1 : Int32} {p2 : Int32} {p3 : Int32} {rr : Int32}  (k_this : kd T this = 9) (h : Mo_steps T V this p1 p2 p3 = some rr) : MG l yX10_steps cX10_steps 7 (Option.some Jvm.ClassFile.FieldType.int) 3 69 0 0 D ca b [rv b (some this), .int p1, .int p2, .int p3] T V (some (.int rr)) T V :=
  MG.ofWG (L := [(0, rv b (some this)), (1, .int p1), (2, .int p2), (3, .int p3)]) (by decide +kernel) rfl (Nat.le_of_ble_eq_true rfl) (fun _ _ _ _ _ _ _ G _ => w_Mo_steps G ⟨Nat.le_refl _, Nat.le_refl _⟩ k_this h)
set_option maxHeartbeats 4000000 in
set_option maxRecDepth 100000 in
theorem w_Mo_isWhole {p : Program} {l : Launch} {e : Env} {R : Room} {s : State} {m : MethodId} {args : Array Value} {below : List Frame} {meth : Method} {c : Code} {D : va_G} {ca : Nat → ClassId} {b : Nat} {T : Tx} {V : Vx} (G : GX p s m meth c cX10_isWhole 3 (Option.some Jvm.ClassFile.FieldType.boolean) RX10 "isWhole" D ca b) (hR : 3 ≤ R.frames ∧ 69 ≤ R.locals) {this : Nat} {p1 : Int32} {p2 : Int32} {rr : Int32}  (k_this : kd T this = 9) (h : Mo_isWhole T V this p1 p2 = some rr) : WG p l e R s m args below meth c D ca b 3 (QG D ca b (some (.int rr)) T V below args s 0 0) 0 0 T V 0 [(0, rv b (some this)), (1, .int p1), (2, .int p2)] [] := by
  unfold Mo_isWhole at h
  refine g_aload_n (pc := 0) G dX10_isWhole_0 0 rfl ?_
  refine g_iload_n (pc := 1) G dX10_isWhole_1 1 rfl ?_
  refine g_iload_n (pc := 2) G dX10_isWhole_2 2 rfl ?_
  obtain ⟨r2, e1, h⟩ := bd_e h
  refine g_callV (pc := 3) (As := [.int p1, .int p2]) (rest := []) (st2 := [.int r2]) G (c_Mo_skips l D ca b k_this e1) (mb_Mo_skips G.2.2.2.2.1) (q957 G.2.2.2.2.1) (q35 G.2.2.2.2.1) (q955 G.2.2.2.2.1) ci_9 k_this rfl rfl (Nat.le_of_ble_eq_true rfl) ⟨Nat.le_trans (Nat.le_of_ble_eq_true rfl) hR.1, Nat.le_trans (Nat.le_of_ble_eq_true rfl) hR.2⟩ ⟨Nat.zero_le _, Nat.zero_le _⟩ rfl rfl dX10_isWhole_3 ?_
  refine g_aload_n (pc := 6) G dX10_isWhole_6 0 rfl ?_
  refine g_iload_n (pc := 7) G dX10_isWhole_7 1 rfl ?_
  obtain ⟨r4, e3, h⟩ := bd_e h
  refine g_callV (pc := 8) (As := [.int p1]) (rest := [.int r2]) (st2 := [.int r4, .int r2]) G (c_Mo_long1 l D ca b k_this e3) (mb_Mo_long1 G.2.2.2.2.1) (q961 G.2.2.2.2.1) (q36 G.2.2.2.2.1) (q959 G.2.2.2.2.1) ci_9 k_this rfl rfl (Nat.le_of_ble_eq_true rfl) ⟨Nat.le_trans (Nat.le_of_ble_eq_true rfl) hR.1, Nat.le_trans (Nat.le_of_ble_eq_true rfl) hR.2⟩ ⟨Nat.zero_le _, Nat.zero_le _⟩ rfl rfl dX10_isWhole_8 ?_
  refine g_ishr (pc := 11) G dX10_isWhole_11 ?_
  refine g_iconst (pc := 12) G (v := 1) dX10_isWhole_12 (by decide) ?_
  refine g_iand (pc := 13) G dX10_isWhole_13 ?_
  refine g_iconst (pc := 14) G (v := 1) dX10_isWhole_14 (by decide) ?_
  refine g_icmp_ne (pc := 15) G 22 dX10_isWhole_15 (by decide) (fun c5 => ?_) (fun c5 => ?_)
  · rw [if_neg c5] at h
    refine g_iconst (pc := 22) G (v := 0) dX10_isWhole_22 (by decide) ?_
    cases h
    exact g_zret (pc := 23) G rfl dX10_isWhole_23
  · rw [if_pos c5] at h
    refine g_iconst (pc := 18) G (v := 1) dX10_isWhole_18 (by decide) ?_
    refine g_goto (pc := 19) G 23 dX10_isWhole_19 (by decide) ?_
    cases h
    exact g_zret (pc := 23) G rfl dX10_isWhole_23
theorem c_Mo_isWhole (l : Launch) (D : va_G) (ca : Nat → ClassId) (b : Nat) {T : Tx} {V : Vx} {this : Nat} {p1 : Int32} {p2 : Int32} {rr : Int32}  (k_this : kd T this = 9) (h : Mo_isWhole T V this p1 p2 = some rr) : MG l yX10_isWhole cX10_isWhole 3 (Option.some Jvm.ClassFile.FieldType.boolean) 3 69 0 0 D ca b [rv b (some this), .int p1, .int p2] T V (some (.int rr)) T V :=
  MG.ofWG (L := [(0, rv b (some this)), (1, .int p1), (2, .int p2)]) (by decide +kernel) rfl (Nat.le_of_ble_eq_true rfl) (fun _ _ _ _ _ _ _ G _ => w_Mo_isWhole G ⟨Nat.le_refl _, Nat.le_refl _⟩ k_this h)
set_option maxHeartbeats 4000000 in
set_option maxRecDepth 100000 in
theorem w_Mo_hasSound {p : Program} {l : Launch} {e : Env} {R : Room} {s : State} {m : MethodId} {args : Array Value} {below : List Frame} {meth : Method} {c : Code} {D : va_G} {ca : Nat → ClassId} {b : Nat} {T : Tx} {V : Vx} (G : GX p s m meth c cX10_hasSound 2 (Option.some Jvm.ClassFile.FieldType.boolean) RX10 "hasSound" D ca b) (hR : 0 ≤ R.frames ∧ 0 ≤ R.locals) {this : Nat} {p1 : Int32} {rr : Int32}  (k_this : kd T this = 9) (h : Mo_hasSound T V this p1 = some rr) : WG p l e R s m args below meth c D ca b 2 (QG D ca b (some (.int rr)) T V below args s 0 0) 0 0 T V 0 [(0, rv b (some this)), (1, .int p1)] [] := by
  unfold Mo_hasSound at h
  refine g_aload_n (pc := 0) G dX10_hasSound_0 0 rfl ?_
  obtain ⟨r1, e2, h⟩ := bd_e h
  obtain ⟨f3, k4⟩ := ck_e e2
  refine g_getR (pc := 1) G ci_9 (uw_9 G.2.2.2.2.1) (k := 3) (by decide) rfl rfl k_this (q777 G.2.2.2.2.1) dX10_hasSound_1 f3 ?_
  refine g_bipush (pc := 4) G (v := 7) dX10_hasSound_4 (by decide) ?_
  refine g_iload_n (pc := 6) G dX10_hasSound_6 1 rfl ?_
  refine g_imul (pc := 7) G dX10_hasSound_7 ?_
  obtain ⟨b5, h⟩ := gd_e h
  refine g_iald (pc := 8) G k4 b5 dX10_hasSound_8 ?_
  refine g_iconst (pc := 9) G (v := 2) dX10_hasSound_9 (by decide) ?_
  refine g_icmp_eq (pc := 10) G 17 dX10_hasSound_10 (by decide) (fun c6 => ?_) (fun c6 => ?_)
  · rw [if_pos c6] at h
    refine g_iconst (pc := 17) G (v := 0) dX10_hasSound_17 (by decide) ?_
    cases h
    exact g_zret (pc := 18) G rfl dX10_hasSound_18
  · rw [if_neg c6] at h
    refine g_iconst (pc := 13) G (v := 1) dX10_hasSound_13 (by decide) ?_
    refine g_goto (pc := 14) G 18 dX10_hasSound_14 (by decide) ?_
    cases h
    exact g_zret (pc := 18) G rfl dX10_hasSound_18
theorem c_Mo_hasSound (l : Launch) (D : va_G) (ca : Nat → ClassId) (b : Nat) {T : Tx} {V : Vx} {this : Nat} {p1 : Int32} {rr : Int32}  (k_this : kd T this = 9) (h : Mo_hasSound T V this p1 = some rr) : MG l yX10_hasSound cX10_hasSound 2 (Option.some Jvm.ClassFile.FieldType.boolean) 0 0 0 0 D ca b [rv b (some this), .int p1] T V (some (.int rr)) T V :=
  MG.ofWG (L := [(0, rv b (some this)), (1, .int p1)]) (by decide +kernel) rfl (Nat.le_of_ble_eq_true rfl) (fun _ _ _ _ _ _ _ G _ => w_Mo_hasSound G ⟨Nat.le_refl _, Nat.le_refl _⟩ k_this h)
set_option maxHeartbeats 4000000 in
set_option maxRecDepth 100000 in
theorem w_Mo_isWriting {p : Program} {l : Launch} {e : Env} {R : Room} {s : State} {m : MethodId} {args : Array Value} {below : List Frame} {meth : Method} {c : Code} {D : va_G} {ca : Nat → ClassId} {b : Nat} {T : Tx} {V : Vx} (G : GX p s m meth c cX10_isWriting 9 (Option.some Jvm.ClassFile.FieldType.boolean) RX10 "isWriting" D ca b) (hR : 4 ≤ R.frames ∧ 95 ≤ R.locals) {this : Nat} {p1 : Int32} {p2 : Nat} {p3 : Int32} {p4 : Int32} {rr : Int32}  (k_this : kd T this = 9) (k_p2 : kd T p2 = 11) (h : Mo_isWriting T V this p1 p2 p3 p4 = some rr) : WG p l e R s m args below meth c D ca b 9 (QG D ca b (some (.int rr)) T V below args s 0 0) 0 0 T V 0 [(0, rv b (some this)), (1, .int p1), (2, rv b (some p2)), (3, .int p3), (4, .int p4)] [] := by
  unfold Mo_isWriting at h
  refine g_iconst (pc := 0) G (v := 1) dX10_isWriting_0 (by decide) ?_
  refine g_istore (L' := [(5, .int 1), (0, rv b (some this)), (1, .int p1), (2, rv b (some p2)), (3, .int p3), (4, .int p4)]) (pc := 1) G dX10_isWriting_1 (by decide) rfl ?_
  refine g_iconst (pc := 3) G (v := 0) dX10_isWriting_3 (by decide) ?_
  refine g_istore (L' := [(6, .int 0), (5, .int 1), (0, rv b (some this)), (1, .int p1), (2, rv b (some p2)), (3, .int p3), (4, .int p4)]) (pc := 4) G dX10_isWriting_4 (by decide) rfl ?_
  refine g_iconst (pc := 6) G (v := 0) dX10_isWriting_6 (by decide) ?_
  refine g_istore (L' := [(7, .int 0), (6, .int 0), (5, .int 1), (0, rv b (some this)), (1, .int p1), (2, rv b (some p2)), (3, .int p3), (4, .int p4)]) (pc := 7) G dX10_isWriting_7 (by decide) rfl ?_
  have LP6 : ∀ (n1 : Nat) (v2 : Int32) (v3 : Int32) (v4 : Int32), Mo_isWriting_L9 T V this p1 p2 p3 p4 n1 v2 v3 v4 = some rr → WG p l e R s m args below meth c D ca b 9 (QG D ca b (some (.int rr)) T V below args s 0 0) 0 0 T V 9 [(0, rv b (some this)), (1, .int p1), (2, rv b (some p2)), (3, .int p3), (4, .int p4), (5, .int v2), (6, .int v3), (7, .int v4)] [] := by
    intro n1
    induction n1 with
    | zero =>
      intro v2 v3 v4 h
      cases h
    | succ n1 ih5 =>
      intro v2 v3 v4 h
      rw [Mo_isWriting_L9] at h
      refine g_iload (pc := 9) G dX10_isWriting_9 7 rfl ?_
      refine g_iload (pc := 11) G dX10_isWriting_11 4 rfl ?_
      refine g_icmp_ge (pc := 13) G 130 dX10_isWriting_13 (by decide) (fun c7 => ?_) (fun c7 => ?_)
      · rw [if_pos c7] at h
        refine g_iload (pc := 130) G dX10_isWriting_130 4 rfl ?_
        refine g_bipush (pc := 132) G (v := 10) dX10_isWriting_132 (by decide) ?_
        refine g_icmp_ge (pc := 134) G 156 dX10_isWriting_134 (by decide) (fun c8 => ?_) (fun c8 => ?_)
        · rw [if_pos c8] at h
          refine g_iconst (pc := 156) G (v := 0) dX10_isWriting_156 (by decide) ?_
          cases h
          exact g_zret (pc := 157) G rfl dX10_isWriting_157
        · rw [if_neg c8] at h
          refine g_iload (pc := 137) G dX10_isWriting_137 6 rfl ?_
          refine g_if_le (pc := 139) G 156 dX10_isWriting_139 (by decide) (fun c9 => ?_) (fun c9 => ?_)
          · rw [if_pos c9] at h
            refine g_iconst (pc := 156) G (v := 0) dX10_isWriting_156 (by decide) ?_
            cases h
            exact g_zret (pc := 157) G rfl dX10_isWriting_157
          · rw [if_neg c9] at h
            refine g_aload_n (pc := 142) G dX10_isWriting_142 0 rfl ?_
            refine g_iload_n (pc := 143) G dX10_isWriting_143 1 rfl ?_
            refine g_iload (pc := 144) G dX10_isWriting_144 5 rfl ?_
            obtain ⟨r11, e10, h⟩ := bd_e h
            refine g_callV (pc := 146) (As := [.int p1, .int v2]) (rest := []) (st2 := [.int r11]) G (c_Mo_isWhole l D ca b k_this e10) (mb_Mo_isWhole G.2.2.2.2.1) (q981 G.2.2.2.2.1) (q41 G.2.2.2.2.1) (q979 G.2.2.2.2.1) ci_9 k_this rfl rfl (Nat.le_of_ble_eq_true rfl) ⟨Nat.le_trans (Nat.le_of_ble_eq_true rfl) hR.1, Nat.le_trans (Nat.le_of_ble_eq_true rfl) hR.2⟩ ⟨Nat.zero_le _, Nat.zero_le _⟩ rfl rfl dX10_isWriting_146 ?_
            refine g_if_eq (pc := 149) G 156 dX10_isWriting_149 (by decide) (fun c12 => ?_) (fun c12 => ?_)
            · rw [if_pos c12] at h
              refine g_iconst (pc := 156) G (v := 0) dX10_isWriting_156 (by decide) ?_
              cases h
              exact g_zret (pc := 157) G rfl dX10_isWriting_157
            · rw [if_neg c12] at h
              refine g_iconst (pc := 152) G (v := 1) dX10_isWriting_152 (by decide) ?_
              refine g_goto (pc := 153) G 157 dX10_isWriting_153 (by decide) ?_
              cases h
              exact g_zret (pc := 157) G rfl dX10_isWriting_157
      · rw [if_neg c7] at h
        refine g_aload_n (pc := 16) G dX10_isWriting_16 2 rfl ?_
        refine g_iload_n (pc := 17) G dX10_isWriting_17 3 rfl ?_
        refine g_iload (pc := 18) G dX10_isWriting_18 7 rfl ?_
        refine g_iadd (pc := 20) G dX10_isWriting_20 ?_
        obtain ⟨b13, h⟩ := gd_e h
        refine g_iald (pc := 21) G k_p2 b13 dX10_isWriting_21 ?_
        obtain ⟨x14, e15, h⟩ := lt_e h
        rw [e15]
        refine g_istore (L' := [(8, .int x14), (0, rv b (some this)), (1, .int p1), (2, rv b (some p2)), (3, .int p3), (4, .int p4), (5, .int v2), (6, .int v3), (7, .int v4)]) (pc := 22) G dX10_isWriting_22 (by decide) rfl ?_
        refine g_aload_n (pc := 24) G dX10_isWriting_24 1 rfl ?_
        refine g_iload (pc := 25) G dX10_isWriting_25 0 rfl ?_
        obtain ⟨r17, e16, h⟩ := bd_e h
        refine g_callV (pc := 27) (As := [.int x14]) (rest := []) (st2 := [.int r17]) G (c_Mo_isStruck l D ca b k_this e16) (mb_Mo_isStruck G.2.2.2.2.1) (q901 G.2.2.2.2.1) (q26 G.2.2.2.2.1) (q899 G.2.2.2.2.1) ci_9 k_this rfl rfl (Nat.le_of_ble_eq_true rfl) ⟨Nat.le_trans (Nat.le_of_ble_eq_true rfl) hR.1, Nat.le_trans (Nat.le_of_ble_eq_true rfl) hR.2⟩ ⟨Nat.zero_le _, Nat.zero_le _⟩ rfl rfl dX10_isWriting_27 ?_
        refine g_if_ne (pc := 30) G 78 dX10_isWriting_30 (by decide) (fun c18 => ?_) (fun c18 => ?_)
        · rw [if_neg c18] at h
          refine g_iconst (pc := 78) G (v := 0) dX10_isWriting_78 (by decide) ?_
          cases h
          exact g_zret (pc := 79) G rfl dX10_isWriting_79
        · rw [if_pos c18] at h
          refine g_aload_n (pc := 33) G dX10_isWriting_33 1 rfl ?_
          refine g_iload (pc := 34) G dX10_isWriting_34 0 rfl ?_
          obtain ⟨r20, e19, h⟩ := bd_e h
          refine g_callV (pc := 36) (As := [.int x14]) (rest := []) (st2 := [.int r20]) G (c_Mo_hasSound l D ca b k_this e19) (mb_Mo_hasSound G.2.2.2.2.1) (q949 G.2.2.2.2.1) (q33 G.2.2.2.2.1) (q947 G.2.2.2.2.1) ci_9 k_this rfl rfl (Nat.le_of_ble_eq_true rfl) ⟨Nat.le_trans (Nat.le_of_ble_eq_true rfl) hR.1, Nat.le_trans (Nat.le_of_ble_eq_true rfl) hR.2⟩ ⟨Nat.zero_le _, Nat.zero_le _⟩ rfl rfl dX10_isWriting_36 ?_
          obtain ⟨J23, eJ24, h⟩ := jn_e h
          have K21 : ∀ (uu : Unit), J23 uu = some rr → WG p l e R s m args below meth c D ca b 9 (QG D ca b (some (.int rr)) T V below args s 0 0) 0 0 T V 80 [(0, rv b (some this)), (1, .int p1), (2, rv b (some p2)), (3, .int p3), (4, .int p4), (5, .int v2), (6, .int v3), (7, .int v4), (8, .int x14)] [] := by
            intro uu h
            rw [eJ24] at h
            dsimp only at h
            refine g_aload_n (pc := 80) G dX10_isWriting_80 0 rfl ?_
            refine g_iload (pc := 81) G dX10_isWriting_81 8 rfl ?_
            obtain ⟨r39, e38, h⟩ := bd_e h
            refine g_callV (pc := 83) (As := [.int x14]) (rest := []) (st2 := [.int r39]) G (c_Mo_hasSound l D ca b k_this e38) (mb_Mo_hasSound G.2.2.2.2.1) (q949 G.2.2.2.2.1) (q33 G.2.2.2.2.1) (q947 G.2.2.2.2.1) ci_9 k_this rfl rfl (Nat.le_of_ble_eq_true rfl) ⟨Nat.le_trans (Nat.le_of_ble_eq_true rfl) hR.1, Nat.le_trans (Nat.le_of_ble_eq_true rfl) hR.2⟩ ⟨Nat.zero_le _, Nat.zero_le _⟩ rfl rfl dX10_isWriting_83 ?_
            obtain ⟨x40, hx42, h⟩ := bd_e h
            have K41 : WG p l e R s m args below meth c D ca b 9 (QG D ca b (some (.int rr)) T V below args s 0 0) 0 0 T V 103 [(0, rv b (some this)), (1, .int p1), (2, rv b (some p2)), (3, .int p3), (4, .int p4), (6, .int v3), (7, .int v4), (8, .int x14)] [.int x40] := by
              refine g_istore (L' := [(5, .int x40), (0, rv b (some this)), (1, .int p1), (2, rv b (some p2)), (3, .int p3), (4, .int p4), (6, .int v3), (7, .int v4), (8, .int x14)]) (pc := 103) G dX10_isWriting_103 (by decide) rfl ?_
              refine g_iload (pc := 105) G dX10_isWriting_105 6 rfl ?_
              refine g_aload_n (pc := 107) G dX10_isWriting_107 1 rfl ?_
              refine g_iload (pc := 108) G dX10_isWriting_108 8 rfl ?_
              obtain ⟨r48, e47, h⟩ := bd_e h
              refine g_callV (pc := 110) (As := [.int x14]) (rest := [.int v3]) (st2 := [.int r48, .int v3]) G (c_Mo_hasSound l D ca b k_this e47) (mb_Mo_hasSound G.2.2.2.2.1) (q949 G.2.2.2.2.1) (q33 G.2.2.2.2.1) (q947 G.2.2.2.2.1) ci_9 k_this rfl rfl (Nat.le_of_ble_eq_true rfl) ⟨Nat.le_trans (Nat.le_of_ble_eq_true rfl) hR.1, Nat.le_trans (Nat.le_of_ble_eq_true rfl) hR.2⟩ ⟨Nat.zero_le _, Nat.zero_le _⟩ rfl rfl dX10_isWriting_110 ?_
              refine g_if_eq (pc := 113) G 120 dX10_isWriting_113 (by decide) (fun c49 => ?_) (fun c49 => ?_)
              · rw [if_pos c49] at h
                refine g_iconst (pc := 120) G (v := 0) dX10_isWriting_120 (by decide) ?_
                refine g_iadd (pc := 121) G dX10_isWriting_121 ?_
                obtain ⟨x50, e51, h⟩ := lt_e h
                rw [e51]
                refine g_istore (L' := [(6, .int x50), (5, .int x40), (0, rv b (some this)), (1, .int p1), (2, rv b (some p2)), (3, .int p3), (4, .int p4), (7, .int v4), (8, .int x14)]) (pc := 122) G dX10_isWriting_122 (by decide) rfl ?_
                refine g_iinc (v := v4 + 1) (L' := [(7, .int (v4 + 1)), (6, .int x50), (5, .int x40), (0, rv b (some this)), (1, .int p1), (2, rv b (some p2)), (3, .int p3), (4, .int p4), (8, .int x14)]) (pc := 124) G dX10_isWriting_124 7 rfl rfl (by decide) rfl ?_
                refine g_goto (pc := 127) G 9 dX10_isWriting_127 (by decide) ?_
                exact g_sub [3, 4, 5, 6, 7, 2, 1, 0] rfl (ih5 _ _ _ h)
              · rw [if_neg c49] at h
                refine g_iconst (pc := 116) G (v := 1) dX10_isWriting_116 (by decide) ?_
                refine g_goto (pc := 117) G 121 dX10_isWriting_117 (by decide) ?_
                refine g_iadd (pc := 121) G dX10_isWriting_121 ?_
                obtain ⟨x52, e53, h⟩ := lt_e h
                rw [e53]
                refine g_istore (L' := [(6, .int x52), (5, .int x40), (0, rv b (some this)), (1, .int p1), (2, rv b (some p2)), (3, .int p3), (4, .int p4), (7, .int v4), (8, .int x14)]) (pc := 122) G dX10_isWriting_122 (by decide) rfl ?_
                refine g_iinc (v := v4 + 1) (L' := [(7, .int (v4 + 1)), (6, .int x52), (5, .int x40), (0, rv b (some this)), (1, .int p1), (2, rv b (some p2)), (3, .int p3), (4, .int p4), (8, .int x14)]) (pc := 124) G dX10_isWriting_124 7 rfl rfl (by decide) rfl ?_
                refine g_goto (pc := 127) G 9 dX10_isWriting_127 (by decide) ?_
                exact g_sub [3, 4, 5, 6, 7, 2, 1, 0] rfl (ih5 _ _ _ h)
            refine g_if_eq (pc := 86) G 101 dX10_isWriting_86 (by decide) (fun c44 => ?_) (fun c44 => ?_)
            · rw [if_pos c44] at hx42
              refine g_iload (pc := 101) G dX10_isWriting_101 5 rfl ?_
              cases hx42
              exact g_sub [0, 1, 2, 3, 4, 6, 7, 8] rfl K41
            · rw [if_neg c44] at hx42
              refine g_aload_n (pc := 89) G dX10_isWriting_89 0 rfl ?_
              refine g_iload_n (pc := 90) G dX10_isWriting_90 1 rfl ?_
              refine g_iload (pc := 91) G dX10_isWriting_91 5 rfl ?_
              refine g_iload (pc := 93) G dX10_isWriting_93 8 rfl ?_
              obtain ⟨r46, e45, hx42⟩ := bd_e hx42
              refine g_callV (pc := 95) (As := [.int p1, .int v2, .int x14]) (rest := []) (st2 := [.int r46]) G (c_Mo_steps l D ca b k_this e45) (mb_Mo_steps G.2.2.2.2.1) (q953 G.2.2.2.2.1) (q34 G.2.2.2.2.1) (q951 G.2.2.2.2.1) ci_9 k_this rfl rfl (Nat.le_of_ble_eq_true rfl) ⟨Nat.le_trans (Nat.le_of_ble_eq_true rfl) hR.1, Nat.le_trans (Nat.le_of_ble_eq_true rfl) hR.2⟩ ⟨Nat.zero_le _, Nat.zero_le _⟩ rfl rfl dX10_isWriting_95 ?_
              refine g_goto (pc := 98) G 103 dX10_isWriting_98 (by decide) ?_
              cases hx42
              exact g_sub [0, 1, 2, 3, 4, 6, 7, 8] rfl K41
          refine g_if_ne (pc := 39) G 80 dX10_isWriting_39 (by decide) (fun c25 => ?_) (fun c25 => ?_)
          · rw [if_neg c25] at h
            exact g_sub [1, 2, 3, 4, 5, 6, 7, 8, 0] rfl (K21 () h)
          · rw [if_pos c25] at h
            refine g_iload (pc := 42) G dX10_isWriting_42 8 rfl ?_
            refine g_iload (pc := 44) G dX10_isWriting_44 5 rfl ?_
            refine g_iconst (pc := 46) G (v := 1) dX10_isWriting_46 (by decide) ?_
            refine g_isub (pc := 47) G dX10_isWriting_47 ?_
            refine g_icmp_lt (pc := 48) G 78 dX10_isWriting_48 (by decide) (fun c26 => ?_) (fun c26 => ?_)
            · rw [if_pos c26] at h
              refine g_iconst (pc := 78) G (v := 0) dX10_isWriting_78 (by decide) ?_
              cases h
              exact g_zret (pc := 79) G rfl dX10_isWriting_79
            · rw [if_neg c26] at h
              refine g_aload_n (pc := 51) G dX10_isWriting_51 1 rfl ?_
              obtain ⟨r27, e28, h⟩ := bd_e h
              obtain ⟨f29, k30⟩ := ck_e e28
              refine g_getR (pc := 52) G ci_9 (uw_9 G.2.2.2.2.1) (k := 3) (by decide) rfl rfl k_this (q777 G.2.2.2.2.1) dX10_isWriting_52 f29 ?_
              refine g_bipush (pc := 55) G (v := 7) dX10_isWriting_55 (by decide) ?_
              refine g_iload (pc := 57) G dX10_isWriting_57 0 rfl ?_
              refine g_imul (pc := 59) G dX10_isWriting_59 ?_
              refine g_iconst (pc := 60) G (v := 1) dX10_isWriting_60 (by decide) ?_
              refine g_iadd (pc := 61) G dX10_isWriting_61 ?_
              obtain ⟨b31, h⟩ := gd_e h
              refine g_iald (pc := 62) G k30 b31 dX10_isWriting_62 ?_
              refine g_aload_n (pc := 63) G dX10_isWriting_63 1 rfl ?_
              obtain ⟨r32, e33, h⟩ := bd_e h
              obtain ⟨f34, k35⟩ := ck_e e33
              refine g_getR (pc := 64) G ci_9 (uw_9 G.2.2.2.2.1) (k := 3) (by decide) rfl rfl k_this (q777 G.2.2.2.2.1) dX10_isWriting_64 f34 ?_
              refine g_bipush (pc := 67) G (v := 84) dX10_isWriting_67 (by decide) ?_
              refine g_bipush (pc := 69) G (v := 10) dX10_isWriting_69 (by decide) ?_
              refine g_iload_n (pc := 71) G dX10_isWriting_71 2 rfl ?_
              refine g_imul (pc := 72) G dX10_isWriting_72 ?_
              refine g_iadd (pc := 73) G dX10_isWriting_73 ?_
              obtain ⟨b36, h⟩ := gd_e h
              refine g_iald (pc := 74) G k35 b36 dX10_isWriting_74 ?_
              refine g_icmp_eq (pc := 75) G 80 dX10_isWriting_75 (by decide) (fun c37 => ?_) (fun c37 => ?_)
              · rw [if_pos c37] at h
                exact g_sub [1, 2, 3, 4, 5, 6, 7, 8, 0] rfl (K21 () h)
              · rw [if_neg c37] at h
                refine g_iconst (pc := 78) G (v := 0) dX10_isWriting_78 (by decide) ?_
                cases h
                exact g_zret (pc := 79) G rfl dX10_isWriting_79
  exact g_sub [3, 4, 5, 6, 7, 2, 1, 0] rfl (LP6 _ _ _ _ h)
theorem c_Mo_isWriting (l : Launch) (D : va_G) (ca : Nat → ClassId) (b : Nat) {T : Tx} {V : Vx} {this : Nat} {p1 : Int32} {p2 : Nat} {p3 : Int32} {p4 : Int32} {rr : Int32}  (k_this : kd T this = 9) (k_p2 : kd T p2 = 11) (h : Mo_isWriting T V this p1 p2 p3 p4 = some rr) : MG l yX10_isWriting cX10_isWriting 9 (Option.some Jvm.ClassFile.FieldType.boolean) 4 95 0 0 D ca b [rv b (some this), .int p1, rv b (some p2), .int p3, .int p4] T V (some (.int rr)) T V :=
  MG.ofWG (L := [(0, rv b (some this)), (1, .int p1), (2, rv b (some p2)), (3, .int p3), (4, .int p4)]) (by decide +kernel) rfl (Nat.le_of_ble_eq_true rfl) (fun _ _ _ _ _ _ _ G _ => w_Mo_isWriting G ⟨Nat.le_refl _, Nat.le_refl _⟩ k_this k_p2 h)
set_option maxHeartbeats 4000000 in
set_option maxRecDepth 100000 in
theorem w_Mo_reads {p : Program} {l : Launch} {e : Env} {R : Room} {s : State} {m : MethodId} {args : Array Value} {below : List Frame} {meth : Method} {c : Code} {D : va_G} {ca : Nat → ClassId} {b : Nat} {T : Tx} {V : Vx} (G : GX p s m meth c cX10_reads 8 (Option.some Jvm.ClassFile.FieldType.int) RX10 "reads" D ca b) (hR : 5 ≤ R.frames ∧ 123 ≤ R.locals) {this : Nat} {p1 : Nat} {p2 : Int32} {p3 : Int32} {rr : Int32}  (k_this : kd T this = 9) (k_p1 : kd T p1 = 11) (h : Mo_reads T V this p1 p2 p3 = some rr) : WG p l e R s m args below meth c D ca b 8 (QG D ca b (some (.int rr)) T V below args s 0 0) 0 0 T V 0 [(0, rv b (some this)), (1, rv b (some p1)), (2, .int p2), (3, .int p3)] [] := by
  unfold Mo_reads at h
  refine g_iconst (pc := 0) G (v := 0) dX10_reads_0 (by decide) ?_
  refine g_istore (L' := [(4, .int 0), (0, rv b (some this)), (1, rv b (some p1)), (2, .int p2), (3, .int p3)]) (pc := 1) G dX10_reads_1 (by decide) rfl ?_
  refine g_aload_n (pc := 3) G dX10_reads_3 2 rfl ?_
  refine g_iload_n (pc := 4) G dX10_reads_4 3 rfl ?_
  obtain ⟨b1, h⟩ := gd_e h
  refine g_iald (pc := 5) G k_p1 b1 dX10_reads_5 ?_
  obtain ⟨x2, e3, h⟩ := lt_e h
  rw [e3]
  refine g_istore (L' := [(5, .int x2), (4, .int 0), (0, rv b (some this)), (1, rv b (some p1)), (2, .int p2), (3, .int p3)]) (pc := 6) G dX10_reads_6 (by decide) rfl ?_
  refine g_iconst (pc := 8) G (v := 0) dX10_reads_8 (by decide) ?_
  refine g_istore (L' := [(6, .int 0), (5, .int x2), (4, .int 0), (0, rv b (some this)), (1, rv b (some p1)), (2, .int p2), (3, .int p3)]) (pc := 9) G dX10_reads_9 (by decide) rfl ?_
  have LP8 : ∀ (n4 : Nat) (v5 : Int32) (v6 : Int32), Mo_reads_L11 T V this p1 p2 p3 x2 n4 v5 v6 = some rr → WG p l e R s m args below meth c D ca b 8 (QG D ca b (some (.int rr)) T V below args s 0 0) 0 0 T V 11 [(0, rv b (some this)), (1, rv b (some p1)), (2, .int p2), (3, .int p3), (4, .int v5), (5, .int x2), (6, .int v6)] [] := by
    intro n4
    induction n4 with
    | zero =>
      intro v5 v6 h
      cases h
    | succ n4 ih7 =>
      intro v5 v6 h
      rw [Mo_reads_L11] at h
      refine g_iload (pc := 11) G dX10_reads_11 6 rfl ?_
      refine g_aload_n (pc := 13) G dX10_reads_13 0 rfl ?_
      obtain ⟨r9, e10, h⟩ := bd_e h
      obtain ⟨f11, k12⟩ := ck_e e10
      refine g_getR (pc := 14) G ci_9 (uw_9 G.2.2.2.2.1) (k := 3) (by decide) rfl rfl k_this (q777 G.2.2.2.2.1) dX10_reads_14 f11 ?_
      refine g_sipush (pc := 17) G (v := 165) dX10_reads_17 (by decide) ?_
      obtain ⟨b13, h⟩ := gd_e h
      refine g_iald (pc := 20) G k12 b13 dX10_reads_20 ?_
      refine g_icmp_ge (pc := 21) G 142 dX10_reads_21 (by decide) (fun c14 => ?_) (fun c14 => ?_)
      · rw [if_pos c14] at h
        refine g_iload (pc := 142) G dX10_reads_142 4 rfl ?_
        cases h
        exact g_iret (pc := 144) G dX10_reads_144
      · rw [if_neg c14] at h
        refine g_aload_n (pc := 24) G dX10_reads_24 0 rfl ?_
        refine g_iload (pc := 25) G dX10_reads_25 6 rfl ?_
        refine g_aload_n (pc := 27) G dX10_reads_27 1 rfl ?_
        refine g_iload_n (pc := 28) G dX10_reads_28 2 rfl ?_
        refine g_iload_n (pc := 29) G dX10_reads_29 3 rfl ?_
        obtain ⟨r16, e15, h⟩ := bd_e h
        refine g_callV (pc := 30) (As := [.int v6, rv b (some p1), .int p2, .int p3]) (rest := []) (st2 := [.int r16]) G (c_Mo_isWriting l D ca b k_this k_p1 e15) (mb_Mo_isWriting G.2.2.2.2.1) (q1001 G.2.2.2.2.1) (q45 G.2.2.2.2.1) (q999 G.2.2.2.2.1) ci_9 k_this rfl rfl (Nat.le_of_ble_eq_true rfl) ⟨Nat.le_trans (Nat.le_of_ble_eq_true rfl) hR.1, Nat.le_trans (Nat.le_of_ble_eq_true rfl) hR.2⟩ ⟨Nat.zero_le _, Nat.zero_le _⟩ rfl rfl dX10_reads_30 ?_
        refine g_istore (L' := [(7, .int r16), (0, rv b (some this)), (1, rv b (some p1)), (2, .int p2), (3, .int p3), (4, .int v5), (5, .int x2), (6, .int v6)]) (pc := 33) G dX10_reads_33 (by decide) rfl ?_
        refine g_iload (pc := 35) G dX10_reads_35 5 rfl ?_
        refine g_iload (pc := 37) G dX10_reads_37 0 rfl ?_
        obtain ⟨x17, hx19, h⟩ := bd_e h
        have K18 : WG p l e R s m args below meth c D ca b 8 (QG D ca b (some (.int rr)) T V below args s 0 0) 0 0 T V 50 [(0, rv b (some this)), (1, rv b (some p1)), (2, .int p2), (3, .int p3), (5, .int x2), (6, .int v6), (7, .int r16)] [.int x17, .int v5] := by
          refine g_ior (pc := 50) G dX10_reads_50 ?_
          obtain ⟨x22, e23, h⟩ := lt_e h
          rw [e23]
          refine g_istore (L' := [(4, .int x22), (0, rv b (some this)), (1, rv b (some p1)), (2, .int p2), (3, .int p3), (5, .int x2), (6, .int v6), (7, .int r16)]) (pc := 51) G dX10_reads_51 (by decide) rfl ?_
          refine g_iload (pc := 53) G dX10_reads_53 7 rfl ?_
          refine g_if_eq (pc := 55) G 136 dX10_reads_55 (by decide) (fun c24 => ?_) (fun c24 => ?_)
          · rw [if_pos c24] at h
            refine g_iinc (v := v6 + 1) (L' := [(6, .int (v6 + 1)), (4, .int x22), (0, rv b (some this)), (1, rv b (some p1)), (2, .int p2), (3, .int p3), (5, .int x2), (7, .int r16)]) (pc := 136) G dX10_reads_136 6 rfl rfl (by decide) rfl ?_
            refine g_goto (pc := 139) G 11 dX10_reads_139 (by decide) ?_
            exact g_sub [2, 3, 4, 5, 1, 6, 0] rfl (ih7 _ _ h)
          · rw [if_neg c24] at h
            refine g_iload_n (pc := 58) G dX10_reads_58 4 rfl ?_
            refine g_iconst (pc := 59) G (v := 1) dX10_reads_59 (by decide) ?_
            refine g_icmp_ne (pc := 60) G 136 dX10_reads_60 (by decide) (fun c25 => ?_) (fun c25 => ?_)
            · rw [if_neg c25] at h
              refine g_iinc (v := v6 + 1) (L' := [(6, .int (v6 + 1)), (4, .int x22), (0, rv b (some this)), (1, rv b (some p1)), (2, .int p2), (3, .int p3), (5, .int x2), (7, .int r16)]) (pc := 136) G dX10_reads_136 6 rfl rfl (by decide) rfl ?_
              refine g_goto (pc := 139) G 11 dX10_reads_139 (by decide) ?_
              exact g_sub [2, 3, 4, 5, 1, 6, 0] rfl (ih7 _ _ h)
            · rw [if_pos c25] at h
              refine g_aload_n (pc := 63) G dX10_reads_63 1 rfl ?_
              obtain ⟨r26, e27, h⟩ := bd_e h
              obtain ⟨f28, k29⟩ := ck_e e27
              refine g_getR (pc := 64) G ci_9 (uw_9 G.2.2.2.2.1) (k := 3) (by decide) rfl rfl k_this (q777 G.2.2.2.2.1) dX10_reads_64 f28 ?_
              refine g_bipush (pc := 67) G (v := 7) dX10_reads_67 (by decide) ?_
              refine g_iload (pc := 69) G dX10_reads_69 5 rfl ?_
              refine g_imul (pc := 71) G dX10_reads_71 ?_
              obtain ⟨b30, h⟩ := gd_e h
              refine g_iald (pc := 72) G k29 b30 dX10_reads_72 ?_
              refine g_if_ne (pc := 73) G 136 dX10_reads_73 (by decide) (fun c31 => ?_) (fun c31 => ?_)
              · rw [if_neg c31] at h
                refine g_iinc (v := v6 + 1) (L' := [(6, .int (v6 + 1)), (4, .int x22), (0, rv b (some this)), (1, rv b (some p1)), (2, .int p2), (3, .int p3), (5, .int x2), (7, .int r16)]) (pc := 136) G dX10_reads_136 6 rfl rfl (by decide) rfl ?_
                refine g_goto (pc := 139) G 11 dX10_reads_139 (by decide) ?_
                exact g_sub [2, 3, 4, 5, 1, 6, 0] rfl (ih7 _ _ h)
              · rw [if_pos c31] at h
                refine g_aload_n (pc := 76) G dX10_reads_76 1 rfl ?_
                obtain ⟨r32, e33, h⟩ := bd_e h
                obtain ⟨f34, k35⟩ := ck_e e33
                refine g_getR (pc := 77) G ci_9 (uw_9 G.2.2.2.2.1) (k := 3) (by decide) rfl rfl k_this (q777 G.2.2.2.2.1) dX10_reads_77 f34 ?_
                refine g_bipush (pc := 80) G (v := 7) dX10_reads_80 (by decide) ?_
                refine g_iload (pc := 82) G dX10_reads_82 5 rfl ?_
                refine g_imul (pc := 84) G dX10_reads_84 ?_
                refine g_iconst (pc := 85) G (v := 1) dX10_reads_85 (by decide) ?_
                refine g_iadd (pc := 86) G dX10_reads_86 ?_
                obtain ⟨b36, h⟩ := gd_e h
                refine g_iald (pc := 87) G k35 b36 dX10_reads_87 ?_
                refine g_aload_n (pc := 88) G dX10_reads_88 1 rfl ?_
                obtain ⟨r37, e38, h⟩ := bd_e h
                obtain ⟨f39, k40⟩ := ck_e e38
                refine g_getR (pc := 89) G ci_9 (uw_9 G.2.2.2.2.1) (k := 3) (by decide) rfl rfl k_this (q777 G.2.2.2.2.1) dX10_reads_89 f39 ?_
                refine g_bipush (pc := 92) G (v := 84) dX10_reads_92 (by decide) ?_
                refine g_bipush (pc := 94) G (v := 10) dX10_reads_94 (by decide) ?_
                refine g_iload (pc := 96) G dX10_reads_96 6 rfl ?_
                refine g_imul (pc := 98) G dX10_reads_98 ?_
                refine g_iadd (pc := 99) G dX10_reads_99 ?_
                obtain ⟨b41, h⟩ := gd_e h
                refine g_iald (pc := 100) G k40 b41 dX10_reads_100 ?_
                refine g_icmp_ne (pc := 101) G 136 dX10_reads_101 (by decide) (fun c42 => ?_) (fun c42 => ?_)
                · rw [if_neg c42] at h
                  refine g_iinc (v := v6 + 1) (L' := [(6, .int (v6 + 1)), (4, .int x22), (0, rv b (some this)), (1, rv b (some p1)), (2, .int p2), (3, .int p3), (5, .int x2), (7, .int r16)]) (pc := 136) G dX10_reads_136 6 rfl rfl (by decide) rfl ?_
                  refine g_goto (pc := 139) G 11 dX10_reads_139 (by decide) ?_
                  exact g_sub [2, 3, 4, 5, 1, 6, 0] rfl (ih7 _ _ h)
                · rw [if_pos c42] at h
                  refine g_aload_n (pc := 104) G dX10_reads_104 1 rfl ?_
                  refine g_iload (pc := 105) G dX10_reads_105 6 rfl ?_
                  obtain ⟨r44, e43, h⟩ := bd_e h
                  refine g_callV (pc := 107) (As := [.int v6]) (rest := []) (st2 := [.int r44]) G (c_Mo_long1 l D ca b k_this e43) (mb_Mo_long1 G.2.2.2.2.1) (q961 G.2.2.2.2.1) (q36 G.2.2.2.2.1) (q959 G.2.2.2.2.1) ci_9 k_this rfl rfl (Nat.le_of_ble_eq_true rfl) ⟨Nat.le_trans (Nat.le_of_ble_eq_true rfl) hR.1, Nat.le_trans (Nat.le_of_ble_eq_true rfl) hR.2⟩ ⟨Nat.zero_le _, Nat.zero_le _⟩ rfl rfl dX10_reads_107 ?_
                  refine g_aload_n (pc := 110) G dX10_reads_110 1 rfl ?_
                  refine g_iload (pc := 111) G dX10_reads_111 5 rfl ?_
                  obtain ⟨r46, e45, h⟩ := bd_e h
                  refine g_callV (pc := 113) (As := [.int x2]) (rest := [.int r44]) (st2 := [.int r46, .int r44]) G (c_Mo_soundLong l D ca b k_this e45) (mb_Mo_soundLong G.2.2.2.2.1) (q977 G.2.2.2.2.1) (q40 G.2.2.2.2.1) (q975 G.2.2.2.2.1) ci_9 k_this rfl rfl (Nat.le_of_ble_eq_true rfl) ⟨Nat.le_trans (Nat.le_of_ble_eq_true rfl) hR.1, Nat.le_trans (Nat.le_of_ble_eq_true rfl) hR.2⟩ ⟨Nat.zero_le _, Nat.zero_le _⟩ rfl rfl dX10_reads_113 ?_
                  refine g_icmp_ne (pc := 116) G 136 dX10_reads_116 (by decide) (fun c47 => ?_) (fun c47 => ?_)
                  · rw [if_neg c47] at h
                    refine g_iinc (v := v6 + 1) (L' := [(6, .int (v6 + 1)), (4, .int x22), (0, rv b (some this)), (1, rv b (some p1)), (2, .int p2), (3, .int p3), (5, .int x2), (7, .int r16)]) (pc := 136) G dX10_reads_136 6 rfl rfl (by decide) rfl ?_
                    refine g_goto (pc := 139) G 11 dX10_reads_139 (by decide) ?_
                    exact g_sub [2, 3, 4, 5, 1, 6, 0] rfl (ih7 _ _ h)
                  · rw [if_pos c47] at h
                    refine g_aload_n (pc := 119) G dX10_reads_119 1 rfl ?_
                    refine g_iload (pc := 120) G dX10_reads_120 6 rfl ?_
                    refine g_iconst (pc := 122) G (v := 0) dX10_reads_122 (by decide) ?_
                    refine g_iload (pc := 123) G dX10_reads_123 5 rfl ?_
                    obtain ⟨r49, e48, h⟩ := bd_e h
                    refine g_callV (pc := 125) (As := [.int v6, .int 0, .int x2]) (rest := []) (st2 := [.int r49]) G (c_Mo_lies l D ca b k_this e48) (mb_Mo_lies G.2.2.2.2.1) (q973 G.2.2.2.2.1) (q39 G.2.2.2.2.1) (q971 G.2.2.2.2.1) ci_9 k_this rfl rfl (Nat.le_of_ble_eq_true rfl) ⟨Nat.le_trans (Nat.le_of_ble_eq_true rfl) hR.1, Nat.le_trans (Nat.le_of_ble_eq_true rfl) hR.2⟩ ⟨Nat.zero_le _, Nat.zero_le _⟩ rfl rfl dX10_reads_125 ?_
                    refine g_if_eq (pc := 128) G 136 dX10_reads_128 (by decide) (fun c50 => ?_) (fun c50 => ?_)
                    · rw [if_pos c50] at h
                      refine g_iinc (v := v6 + 1) (L' := [(6, .int (v6 + 1)), (4, .int x22), (0, rv b (some this)), (1, rv b (some p1)), (2, .int p2), (3, .int p3), (5, .int x2), (7, .int r16)]) (pc := 136) G dX10_reads_136 6 rfl rfl (by decide) rfl ?_
                      refine g_goto (pc := 139) G 11 dX10_reads_139 (by decide) ?_
                      exact g_sub [2, 3, 4, 5, 1, 6, 0] rfl (ih7 _ _ h)
                    · rw [if_neg c50] at h
                      refine g_iconst (pc := 131) G (v := 1) dX10_reads_131 (by decide) ?_
                      refine g_iload (pc := 132) G dX10_reads_132 6 rfl ?_
                      refine g_ishl (pc := 134) G dX10_reads_134 ?_
                      cases h
                      exact g_iret (pc := 135) G dX10_reads_135
        refine g_if_eq (pc := 39) G 49 dX10_reads_39 (by decide) (fun c21 => ?_) (fun c21 => ?_)
        · rw [if_pos c21] at hx19
          refine g_iconst (pc := 49) G (v := 0) dX10_reads_49 (by decide) ?_
          cases hx19
          exact g_sub [1, 2, 3, 4, 6, 7, 0] rfl K18
        · rw [if_neg c21] at hx19
          refine g_iconst (pc := 42) G (v := 1) dX10_reads_42 (by decide) ?_
          refine g_iload (pc := 43) G dX10_reads_43 7 rfl ?_
          refine g_ishl (pc := 45) G dX10_reads_45 ?_
          refine g_goto (pc := 46) G 50 dX10_reads_46 (by decide) ?_
          cases hx19
          exact g_sub [1, 2, 3, 4, 6, 7, 0] rfl K18
  exact g_sub [3, 4, 5, 6, 2, 1, 0] rfl (LP8 _ _ _ h)
theorem c_Mo_reads (l : Launch) (D : va_G) (ca : Nat → ClassId) (b : Nat) {T : Tx} {V : Vx} {this : Nat} {p1 : Nat} {p2 : Int32} {p3 : Int32} {rr : Int32}  (k_this : kd T this = 9) (k_p1 : kd T p1 = 11) (h : Mo_reads T V this p1 p2 p3 = some rr) : MG l yX10_reads cX10_reads 8 (Option.some Jvm.ClassFile.FieldType.int) 5 123 0 0 D ca b [rv b (some this), rv b (some p1), .int p2, .int p3] T V (some (.int rr)) T V :=
  MG.ofWG (L := [(0, rv b (some this)), (1, rv b (some p1)), (2, .int p2), (3, .int p3)]) (by decide +kernel) rfl (Nat.le_of_ble_eq_true rfl) (fun _ _ _ _ _ _ _ G _ => w_Mo_reads G ⟨Nat.le_refl _, Nat.le_refl _⟩ k_this k_p1 h)
