set_option maxHeartbeats 4000000 in
set_option maxRecDepth 100000 in
theorem w_Hi_size {p : Program} {l : Launch} {e : Env} {R : Room} {s : State} {m : MethodId} {args : Array Value} {below : List Frame} {meth : Method} {c : Code} {D : va_G} {ca : Nat → ClassId} {b : Nat} {T : Tx} {V : Vx} (G : GX p s m meth c cX0_size 1 (Option.some Jvm.ClassFile.FieldType.int) RX0 "size" D ca b) (hR : 0 ≤ R.frames ∧ 0 ≤ R.locals) {this : Nat} {rr : Int32}  (k_this : kd T this = 0) (h : Hi_size T V this = some rr) : WG p l e R s m args below meth c D ca b 1 (QG D ca b (some (.int rr)) T V below args s 0 0) 0 0 T V 0 [(0, rv b (some this))] [] := by
  unfold Hi_size at h
  refine g_aload_n (pc := 0) G dX0_size_0 0 rfl ?_
  refine g_getI (pc := 1) G ci_0 (uw_0 G.2.2.2.2.1) (k := 2) (by decide) rfl rfl k_this (q119 G.2.2.2.2.1) dX0_size_1 ?_
  cases h
  exact g_iret (pc := 4) G dX0_size_4
theorem c_Hi_size (l : Launch) (D : va_G) (ca : Nat → ClassId) (b : Nat) {T : Tx} {V : Vx} {this : Nat} {rr : Int32}  (k_this : kd T this = 0) (h : Hi_size T V this = some rr) : MG l yX0_size cX0_size 1 (Option.some Jvm.ClassFile.FieldType.int) 0 0 0 0 D ca b [rv b (some this)] T V (some (.int rr)) T V :=
  MG.ofWG (L := [(0, rv b (some this))]) (by decide +kernel) rfl (Nat.le_of_ble_eq_true rfl) (fun _ _ _ _ _ _ _ G _ => w_Hi_size G ⟨Nat.le_refl _, Nat.le_refl _⟩ k_this h)
set_option maxHeartbeats 4000000 in
set_option maxRecDepth 100000 in
theorem w_Hi_clear {p : Program} {l : Launch} {e : Env} {R : Room} {s : State} {m : MethodId} {args : Array Value} {below : List Frame} {meth : Method} {c : Code} {D : va_G} {ca : Nat → ClassId} {b : Nat} {T : Tx} {V : Vx} (G : GX p s m meth c cX0_clear 1 (Option.none : Option Jvm.ClassFile.FieldType) RX0 "clear" D ca b) (hR : 0 ≤ R.frames ∧ 0 ≤ R.locals) {this : Nat}  {Vf : Vx} (k_this : kd T this = 0) (h : Hi_clear T V this = some Vf) : WG p l e R s m args below meth c D ca b 1 (QG D ca b none T Vf below args s 0 0) 0 0 T V 0 [(0, rv b (some this))] [] := by
  unfold Hi_clear at h
  refine g_aload_n (pc := 0) G dX0_clear_0 0 rfl ?_
  refine g_iconst (pc := 1) G (v := 0) dX0_clear_1 (by decide) ?_
  obtain ⟨V1, e2, h⟩ := lt_e h
  refine g_putI (pc := 2) G ci_0 (uw_0 G.2.2.2.2.1) (k := 2) (by decide) rfl rfl k_this rfl ⟨rfl, rfl⟩ (q119 G.2.2.2.2.1) e2 dX0_clear_2 ?_
  cases h
  exact g_vret (pc := 5) G dX0_clear_5
theorem c_Hi_clear (l : Launch) (D : va_G) (ca : Nat → ClassId) (b : Nat) {T : Tx} {V : Vx} {this : Nat}  {Vf : Vx} (k_this : kd T this = 0) (h : Hi_clear T V this = some Vf) : MG l yX0_clear cX0_clear 1 (Option.none : Option Jvm.ClassFile.FieldType) 0 0 0 0 D ca b [rv b (some this)] T V none T Vf :=
  MG.ofWG (L := [(0, rv b (some this))]) (by decide +kernel) rfl (Nat.le_of_ble_eq_true rfl) (fun _ _ _ _ _ _ _ G _ => w_Hi_clear G ⟨Nat.le_refl _, Nat.le_refl _⟩ k_this h)
set_option maxHeartbeats 4000000 in
set_option maxRecDepth 100000 in
theorem w_Hi_forgetOldest {p : Program} {l : Launch} {e : Env} {R : Room} {s : State} {m : MethodId} {args : Array Value} {below : List Frame} {meth : Method} {c : Code} {D : va_G} {ca : Nat → ClassId} {b : Nat} {T : Tx} {V : Vx} (G : GX p s m meth c cX0_forgetOldest 2 (Option.none : Option Jvm.ClassFile.FieldType) RX0 "forgetOldest" D ca b) (hR : 0 ≤ R.frames ∧ 0 ≤ R.locals) {this : Nat}  {Vf : Vx} (k_this : kd T this = 0) (h : Hi_forgetOldest T V this = some Vf) : WG p l e R s m args below meth c D ca b 2 (QG D ca b none T Vf below args s 0 0) 0 0 T V 0 [(0, rv b (some this))] [] := by
  unfold Hi_forgetOldest at h
  refine g_iconst (pc := 0) G (v := 1) dX0_forgetOldest_0 (by decide) ?_
  refine g_istore_n (L' := [(1, .int 1), (0, rv b (some this))]) (pc := 1) G dX0_forgetOldest_1 (by decide) rfl ?_
  have LP5 : ∀ (n1 : Nat) (V3 : Vx) (v2 : Int32), Hi_forgetOldest_L2 T this n1 V3 v2 = some Vf → WG p l e R s m args below meth c D ca b 2 (QG D ca b none T Vf below args s 0 0) 0 0 T V3 2 [(0, rv b (some this)), (1, .int v2)] [] := by
    intro n1
    induction n1 with
    | zero =>
      intro V3 v2 h
      cases h
    | succ n1 ih4 =>
      intro V3 v2 h
      rw [Hi_forgetOldest_L2] at h
      refine g_iload_n (pc := 2) G dX0_forgetOldest_2 1 rfl ?_
      refine g_bipush (pc := 3) G (v := 6) dX0_forgetOldest_3 (by decide) ?_
      refine g_icmp_ge (pc := 5) G 42 dX0_forgetOldest_5 (by decide) (fun c6 => ?_) (fun c6 => ?_)
      · rw [if_pos c6] at h
        refine g_aload_n (pc := 42) G dX0_forgetOldest_42 0 rfl ?_
        refine g_iconst (pc := 43) G (v := 5) dX0_forgetOldest_43 (by decide) ?_
        obtain ⟨V7, e8, h⟩ := lt_e h
        refine g_putI (pc := 44) G ci_0 (uw_0 G.2.2.2.2.1) (k := 2) (by decide) rfl rfl k_this rfl ⟨rfl, rfl⟩ (q119 G.2.2.2.2.1) e8 dX0_forgetOldest_44 ?_
        cases h
        exact g_vret (pc := 47) G dX0_forgetOldest_47
      · rw [if_neg c6] at h
        refine g_aload_n (pc := 8) G dX0_forgetOldest_8 0 rfl ?_
        obtain ⟨r9, e10, h⟩ := bd_e h
        obtain ⟨f11, k12⟩ := ck_e e10
        refine g_getR (pc := 9) G ci_0 (uw_0 G.2.2.2.2.1) (k := 0) (by decide) rfl rfl k_this (q117 G.2.2.2.2.1) dX0_forgetOldest_9 f11 ?_
        refine g_iload_n (pc := 12) G dX0_forgetOldest_12 1 rfl ?_
        refine g_iconst (pc := 13) G (v := 1) dX0_forgetOldest_13 (by decide) ?_
        refine g_isub (pc := 14) G dX0_forgetOldest_14 ?_
        refine g_aload_n (pc := 15) G dX0_forgetOldest_15 0 rfl ?_
        obtain ⟨r13, e14, h⟩ := bd_e h
        obtain ⟨f15, k16⟩ := ck_e e14
        refine g_getR (pc := 16) G ci_0 (uw_0 G.2.2.2.2.1) (k := 0) (by decide) rfl rfl k_this (q117 G.2.2.2.2.1) dX0_forgetOldest_16 f15 ?_
        refine g_iload_n (pc := 19) G dX0_forgetOldest_19 1 rfl ?_
        obtain ⟨b17, h⟩ := gd_e h
        refine g_iald (pc := 20) G k16 b17 dX0_forgetOldest_20 ?_
        obtain ⟨b18, h⟩ := gd_e h
        obtain ⟨V19, e20, h⟩ := lt_e h
        refine g_iast (pc := 21) G k12 b18 e20 dX0_forgetOldest_21 ?_
        refine g_aload_n (pc := 22) G dX0_forgetOldest_22 0 rfl ?_
        obtain ⟨r21, e22, h⟩ := bd_e h
        obtain ⟨f23, k24⟩ := ck_e e22
        refine g_getR (pc := 23) G ci_0 (uw_0 G.2.2.2.2.1) (k := 1) (by decide) rfl rfl k_this (q118 G.2.2.2.2.1) dX0_forgetOldest_23 f23 ?_
        refine g_iload_n (pc := 26) G dX0_forgetOldest_26 1 rfl ?_
        refine g_iconst (pc := 27) G (v := 1) dX0_forgetOldest_27 (by decide) ?_
        refine g_isub (pc := 28) G dX0_forgetOldest_28 ?_
        refine g_aload_n (pc := 29) G dX0_forgetOldest_29 0 rfl ?_
        obtain ⟨r25, e26, h⟩ := bd_e h
        obtain ⟨f27, k28⟩ := ck_e e26
        refine g_getR (pc := 30) G ci_0 (uw_0 G.2.2.2.2.1) (k := 1) (by decide) rfl rfl k_this (q118 G.2.2.2.2.1) dX0_forgetOldest_30 f27 ?_
        refine g_iload_n (pc := 33) G dX0_forgetOldest_33 1 rfl ?_
        obtain ⟨b29, h⟩ := gd_e h
        refine g_iald (pc := 34) G k28 b29 dX0_forgetOldest_34 ?_
        obtain ⟨b30, h⟩ := gd_e h
        obtain ⟨V31, e32, h⟩ := lt_e h
        refine g_iast (pc := 35) G k24 b30 e32 dX0_forgetOldest_35 ?_
        refine g_iinc (v := v2 + 1) (L' := [(1, .int (v2 + 1)), (0, rv b (some this))]) (pc := 36) G dX0_forgetOldest_36 1 rfl rfl (by decide) rfl ?_
        refine g_goto (pc := 39) G 2 dX0_forgetOldest_39 (by decide) ?_
        exact g_sub [1, 0] rfl (ih4 _ _ h)
  exact g_sub [1, 0] rfl (LP5 _ _ _ h)
theorem c_Hi_forgetOldest (l : Launch) (D : va_G) (ca : Nat → ClassId) (b : Nat) {T : Tx} {V : Vx} {this : Nat}  {Vf : Vx} (k_this : kd T this = 0) (h : Hi_forgetOldest T V this = some Vf) : MG l yX0_forgetOldest cX0_forgetOldest 2 (Option.none : Option Jvm.ClassFile.FieldType) 0 0 0 0 D ca b [rv b (some this)] T V none T Vf :=
  MG.ofWG (L := [(0, rv b (some this))]) (by decide +kernel) rfl (Nat.le_of_ble_eq_true rfl) (fun _ _ _ _ _ _ _ G _ => w_Hi_forgetOldest G ⟨Nat.le_refl _, Nat.le_refl _⟩ k_this h)
set_option maxHeartbeats 4000000 in
set_option maxRecDepth 100000 in
theorem w_Hi_push {p : Program} {l : Launch} {e : Env} {R : Room} {s : State} {m : MethodId} {args : Array Value} {below : List Frame} {meth : Method} {c : Code} {D : va_G} {ca : Nat → ClassId} {b : Nat} {T : Tx} {V : Vx} (G : GX p s m meth c cX0_push 3 (Option.none : Option Jvm.ClassFile.FieldType) RX0 "push" D ca b) (hR : 1 ≤ R.frames ∧ 21 ≤ R.locals) {this : Nat} {p1 : Int32} {p2 : Int32}  {Vf : Vx} (k_this : kd T this = 0) (h : Hi_push T V this p1 p2 = some Vf) : WG p l e R s m args below meth c D ca b 3 (QG D ca b none T Vf below args s 0 0) 0 0 T V 0 [(0, rv b (some this)), (1, .int p1), (2, .int p2)] [] := by
  unfold Hi_push at h
  refine g_aload_n (pc := 0) G dX0_push_0 0 rfl ?_
  refine g_getI (pc := 1) G ci_0 (uw_0 G.2.2.2.2.1) (k := 2) (by decide) rfl rfl k_this (q119 G.2.2.2.2.1) dX0_push_1 ?_
  refine g_bipush (pc := 4) G (v := 6) dX0_push_4 (by decide) ?_
  obtain ⟨V1, hx3, h⟩ := bd_e h
  have K2 : WG p l e R s m args below meth c D ca b 3 (QG D ca b none T Vf below args s 0 0) 0 0 T V1 13 [(0, rv b (some this)), (1, .int p1), (2, .int p2)] [] := by
    refine g_aload_n (pc := 13) G dX0_push_13 0 rfl ?_
    refine g_getI (pc := 14) G ci_0 (uw_0 G.2.2.2.2.1) (k := 2) (by decide) rfl rfl k_this (q119 G.2.2.2.2.1) dX0_push_14 ?_
    refine g_if_lt (pc := 17) G 59 dX0_push_17 (by decide) (fun c8 => ?_) (fun c8 => ?_)
    · rw [if_pos c8] at h
      cases h
      exact g_vret (pc := 59) G dX0_push_59
    · rw [if_neg c8] at h
      refine g_aload_n (pc := 20) G dX0_push_20 0 rfl ?_
      refine g_getI (pc := 21) G ci_0 (uw_0 G.2.2.2.2.1) (k := 2) (by decide) rfl rfl k_this (q119 G.2.2.2.2.1) dX0_push_21 ?_
      refine g_bipush (pc := 24) G (v := 6) dX0_push_24 (by decide) ?_
      refine g_icmp_ge (pc := 26) G 59 dX0_push_26 (by decide) (fun c9 => ?_) (fun c9 => ?_)
      · rw [if_pos c9] at h
        cases h
        exact g_vret (pc := 59) G dX0_push_59
      · rw [if_neg c9] at h
        refine g_aload_n (pc := 29) G dX0_push_29 0 rfl ?_
        obtain ⟨r10, e11, h⟩ := bd_e h
        obtain ⟨f12, k13⟩ := ck_e e11
        refine g_getR (pc := 30) G ci_0 (uw_0 G.2.2.2.2.1) (k := 0) (by decide) rfl rfl k_this (q117 G.2.2.2.2.1) dX0_push_30 f12 ?_
        refine g_aload_n (pc := 33) G dX0_push_33 0 rfl ?_
        refine g_getI (pc := 34) G ci_0 (uw_0 G.2.2.2.2.1) (k := 2) (by decide) rfl rfl k_this (q119 G.2.2.2.2.1) dX0_push_34 ?_
        refine g_iload_n (pc := 37) G dX0_push_37 1 rfl ?_
        obtain ⟨b14, h⟩ := gd_e h
        obtain ⟨V15, e16, h⟩ := lt_e h
        refine g_iast (pc := 38) G k13 b14 e16 dX0_push_38 ?_
        refine g_aload_n (pc := 39) G dX0_push_39 0 rfl ?_
        obtain ⟨r17, e18, h⟩ := bd_e h
        obtain ⟨f19, k20⟩ := ck_e e18
        refine g_getR (pc := 40) G ci_0 (uw_0 G.2.2.2.2.1) (k := 1) (by decide) rfl rfl k_this (q118 G.2.2.2.2.1) dX0_push_40 f19 ?_
        refine g_aload_n (pc := 43) G dX0_push_43 0 rfl ?_
        refine g_getI (pc := 44) G ci_0 (uw_0 G.2.2.2.2.1) (k := 2) (by decide) rfl rfl k_this (q119 G.2.2.2.2.1) dX0_push_44 ?_
        refine g_iload_n (pc := 47) G dX0_push_47 2 rfl ?_
        obtain ⟨b21, h⟩ := gd_e h
        obtain ⟨V22, e23, h⟩ := lt_e h
        refine g_iast (pc := 48) G k20 b21 e23 dX0_push_48 ?_
        refine g_aload_n (pc := 49) G dX0_push_49 0 rfl ?_
        refine g_dup (pc := 50) G dX0_push_50 rfl ?_
        refine g_getI (pc := 51) G ci_0 (uw_0 G.2.2.2.2.1) (k := 2) (by decide) rfl rfl k_this (q119 G.2.2.2.2.1) dX0_push_51 ?_
        refine g_iconst (pc := 54) G (v := 1) dX0_push_54 (by decide) ?_
        refine g_iadd (pc := 55) G dX0_push_55 ?_
        obtain ⟨V24, e25, h⟩ := lt_e h
        refine g_putI (pc := 56) G ci_0 (uw_0 G.2.2.2.2.1) (k := 2) (by decide) rfl rfl k_this rfl ⟨rfl, rfl⟩ (q119 G.2.2.2.2.1) e25 dX0_push_56 ?_
        cases h
        exact g_vret (pc := 59) G dX0_push_59
  refine g_icmp_lt (pc := 6) G 13 dX0_push_6 (by decide) (fun c5 => ?_) (fun c5 => ?_)
  · rw [if_pos c5] at hx3
    cases hx3
    exact g_sub [0, 1, 2] rfl K2
  · rw [if_neg c5] at hx3
    refine g_aload_n (pc := 9) G dX0_push_9 0 rfl ?_
    obtain ⟨V7, e6, hx3⟩ := bd_e hx3
    refine g_callV (pc := 10) (As := []) (rest := []) (st2 := []) G (c_Hi_forgetOldest l D ca b k_this e6) (mb_Hi_forgetOldest G.2.2.2.2.1) (q476 G.2.2.2.2.1) (q1 G.2.2.2.2.1) (q474 G.2.2.2.2.1) ci_0 k_this rfl rfl (Nat.le_of_ble_eq_true rfl) ⟨Nat.le_trans (Nat.le_of_ble_eq_true rfl) hR.1, Nat.le_trans (Nat.le_of_ble_eq_true rfl) hR.2⟩ ⟨Nat.zero_le _, Nat.zero_le _⟩ rfl rfl dX0_push_10 ?_
    cases hx3
    exact g_sub [0, 1, 2] rfl K2
theorem c_Hi_push (l : Launch) (D : va_G) (ca : Nat → ClassId) (b : Nat) {T : Tx} {V : Vx} {this : Nat} {p1 : Int32} {p2 : Int32}  {Vf : Vx} (k_this : kd T this = 0) (h : Hi_push T V this p1 p2 = some Vf) : MG l yX0_push cX0_push 3 (Option.none : Option Jvm.ClassFile.FieldType) 1 21 0 0 D ca b [rv b (some this), .int p1, .int p2] T V none T Vf :=
  MG.ofWG (L := [(0, rv b (some this)), (1, .int p1), (2, .int p2)]) (by decide +kernel) rfl (Nat.le_of_ble_eq_true rfl) (fun _ _ _ _ _ _ _ G _ => w_Hi_push G ⟨Nat.le_refl _, Nat.le_refl _⟩ k_this h)
set_option maxHeartbeats 4000000 in
set_option maxRecDepth 100000 in
theorem w_Hi_lastKind {p : Program} {l : Launch} {e : Env} {R : Room} {s : State} {m : MethodId} {args : Array Value} {below : List Frame} {meth : Method} {c : Code} {D : va_G} {ca : Nat → ClassId} {b : Nat} {T : Tx} {V : Vx} (G : GX p s m meth c cX0_lastKind 1 (Option.some Jvm.ClassFile.FieldType.int) RX0 "lastKind" D ca b) (hR : 0 ≤ R.frames ∧ 0 ≤ R.locals) {this : Nat} {rr : Int32}  (k_this : kd T this = 0) (h : Hi_lastKind T V this = some rr) : WG p l e R s m args below meth c D ca b 1 (QG D ca b (some (.int rr)) T V below args s 0 0) 0 0 T V 0 [(0, rv b (some this))] [] := by
  unfold Hi_lastKind at h
  refine g_aload_n (pc := 0) G dX0_lastKind_0 0 rfl ?_
  refine g_getI (pc := 1) G ci_0 (uw_0 G.2.2.2.2.1) (k := 2) (by decide) rfl rfl k_this (q119 G.2.2.2.2.1) dX0_lastKind_1 ?_
  refine g_if_le (pc := 4) G 30 dX0_lastKind_4 (by decide) (fun c1 => ?_) (fun c1 => ?_)
  · rw [if_pos c1] at h
    refine g_bipush (pc := 30) G (v := (-4)) dX0_lastKind_30 (by decide) ?_
    cases h
    exact g_iret (pc := 32) G dX0_lastKind_32
  · rw [if_neg c1] at h
    refine g_aload_n (pc := 7) G dX0_lastKind_7 0 rfl ?_
    refine g_getI (pc := 8) G ci_0 (uw_0 G.2.2.2.2.1) (k := 2) (by decide) rfl rfl k_this (q119 G.2.2.2.2.1) dX0_lastKind_8 ?_
    refine g_bipush (pc := 11) G (v := 6) dX0_lastKind_11 (by decide) ?_
    refine g_icmp_gt (pc := 13) G 30 dX0_lastKind_13 (by decide) (fun c2 => ?_) (fun c2 => ?_)
    · rw [if_pos c2] at h
      refine g_bipush (pc := 30) G (v := (-4)) dX0_lastKind_30 (by decide) ?_
      cases h
      exact g_iret (pc := 32) G dX0_lastKind_32
    · rw [if_neg c2] at h
      refine g_aload_n (pc := 16) G dX0_lastKind_16 0 rfl ?_
      obtain ⟨r3, e4, h⟩ := bd_e h
      obtain ⟨f5, k6⟩ := ck_e e4
      refine g_getR (pc := 17) G ci_0 (uw_0 G.2.2.2.2.1) (k := 0) (by decide) rfl rfl k_this (q117 G.2.2.2.2.1) dX0_lastKind_17 f5 ?_
      refine g_aload_n (pc := 20) G dX0_lastKind_20 0 rfl ?_
      refine g_getI (pc := 21) G ci_0 (uw_0 G.2.2.2.2.1) (k := 2) (by decide) rfl rfl k_this (q119 G.2.2.2.2.1) dX0_lastKind_21 ?_
      refine g_iconst (pc := 24) G (v := 1) dX0_lastKind_24 (by decide) ?_
      refine g_isub (pc := 25) G dX0_lastKind_25 ?_
      obtain ⟨b7, h⟩ := gd_e h
      refine g_iald (pc := 26) G k6 b7 dX0_lastKind_26 ?_
      refine g_goto (pc := 27) G 32 dX0_lastKind_27 (by decide) ?_
      cases h
      exact g_iret (pc := 32) G dX0_lastKind_32
theorem c_Hi_lastKind (l : Launch) (D : va_G) (ca : Nat → ClassId) (b : Nat) {T : Tx} {V : Vx} {this : Nat} {rr : Int32}  (k_this : kd T this = 0) (h : Hi_lastKind T V this = some rr) : MG l yX0_lastKind cX0_lastKind 1 (Option.some Jvm.ClassFile.FieldType.int) 0 0 0 0 D ca b [rv b (some this)] T V (some (.int rr)) T V :=
  MG.ofWG (L := [(0, rv b (some this))]) (by decide +kernel) rfl (Nat.le_of_ble_eq_true rfl) (fun _ _ _ _ _ _ _ G _ => w_Hi_lastKind G ⟨Nat.le_refl _, Nat.le_refl _⟩ k_this h)
set_option maxHeartbeats 4000000 in
set_option maxRecDepth 100000 in
theorem w_Hi_lastValue {p : Program} {l : Launch} {e : Env} {R : Room} {s : State} {m : MethodId} {args : Array Value} {below : List Frame} {meth : Method} {c : Code} {D : va_G} {ca : Nat → ClassId} {b : Nat} {T : Tx} {V : Vx} (G : GX p s m meth c cX0_lastValue 1 (Option.some Jvm.ClassFile.FieldType.int) RX0 "lastValue" D ca b) (hR : 0 ≤ R.frames ∧ 0 ≤ R.locals) {this : Nat} {rr : Int32}  (k_this : kd T this = 0) (h : Hi_lastValue T V this = some rr) : WG p l e R s m args below meth c D ca b 1 (QG D ca b (some (.int rr)) T V below args s 0 0) 0 0 T V 0 [(0, rv b (some this))] [] := by
  unfold Hi_lastValue at h
  refine g_aload_n (pc := 0) G dX0_lastValue_0 0 rfl ?_
  refine g_getI (pc := 1) G ci_0 (uw_0 G.2.2.2.2.1) (k := 2) (by decide) rfl rfl k_this (q119 G.2.2.2.2.1) dX0_lastValue_1 ?_
  refine g_if_le (pc := 4) G 30 dX0_lastValue_4 (by decide) (fun c1 => ?_) (fun c1 => ?_)
  · rw [if_pos c1] at h
    refine g_bipush (pc := 30) G (v := (-4)) dX0_lastValue_30 (by decide) ?_
    cases h
    exact g_iret (pc := 32) G dX0_lastValue_32
  · rw [if_neg c1] at h
    refine g_aload_n (pc := 7) G dX0_lastValue_7 0 rfl ?_
    refine g_getI (pc := 8) G ci_0 (uw_0 G.2.2.2.2.1) (k := 2) (by decide) rfl rfl k_this (q119 G.2.2.2.2.1) dX0_lastValue_8 ?_
    refine g_bipush (pc := 11) G (v := 6) dX0_lastValue_11 (by decide) ?_
    refine g_icmp_gt (pc := 13) G 30 dX0_lastValue_13 (by decide) (fun c2 => ?_) (fun c2 => ?_)
    · rw [if_pos c2] at h
      refine g_bipush (pc := 30) G (v := (-4)) dX0_lastValue_30 (by decide) ?_
      cases h
      exact g_iret (pc := 32) G dX0_lastValue_32
    · rw [if_neg c2] at h
      refine g_aload_n (pc := 16) G dX0_lastValue_16 0 rfl ?_
      obtain ⟨r3, e4, h⟩ := bd_e h
      obtain ⟨f5, k6⟩ := ck_e e4
      refine g_getR (pc := 17) G ci_0 (uw_0 G.2.2.2.2.1) (k := 1) (by decide) rfl rfl k_this (q118 G.2.2.2.2.1) dX0_lastValue_17 f5 ?_
      refine g_aload_n (pc := 20) G dX0_lastValue_20 0 rfl ?_
      refine g_getI (pc := 21) G ci_0 (uw_0 G.2.2.2.2.1) (k := 2) (by decide) rfl rfl k_this (q119 G.2.2.2.2.1) dX0_lastValue_21 ?_
      refine g_iconst (pc := 24) G (v := 1) dX0_lastValue_24 (by decide) ?_
      refine g_isub (pc := 25) G dX0_lastValue_25 ?_
      obtain ⟨b7, h⟩ := gd_e h
      refine g_iald (pc := 26) G k6 b7 dX0_lastValue_26 ?_
      refine g_goto (pc := 27) G 32 dX0_lastValue_27 (by decide) ?_
      cases h
      exact g_iret (pc := 32) G dX0_lastValue_32
theorem c_Hi_lastValue (l : Launch) (D : va_G) (ca : Nat → ClassId) (b : Nat) {T : Tx} {V : Vx} {this : Nat} {rr : Int32}  (k_this : kd T this = 0) (h : Hi_lastValue T V this = some rr) : MG l yX0_lastValue cX0_lastValue 1 (Option.some Jvm.ClassFile.FieldType.int) 0 0 0 0 D ca b [rv b (some this)] T V (some (.int rr)) T V :=
  MG.ofWG (L := [(0, rv b (some this))]) (by decide +kernel) rfl (Nat.le_of_ble_eq_true rfl) (fun _ _ _ _ _ _ _ G _ => w_Hi_lastValue G ⟨Nat.le_refl _, Nat.le_refl _⟩ k_this h)
set_option maxHeartbeats 4000000 in
set_option maxRecDepth 100000 in
theorem w_Hi_drop {p : Program} {l : Launch} {e : Env} {R : Room} {s : State} {m : MethodId} {args : Array Value} {below : List Frame} {meth : Method} {c : Code} {D : va_G} {ca : Nat → ClassId} {b : Nat} {T : Tx} {V : Vx} (G : GX p s m meth c cX0_drop 1 (Option.none : Option Jvm.ClassFile.FieldType) RX0 "drop" D ca b) (hR : 0 ≤ R.frames ∧ 0 ≤ R.locals) {this : Nat}  {Vf : Vx} (k_this : kd T this = 0) (h : Hi_drop T V this = some Vf) : WG p l e R s m args below meth c D ca b 1 (QG D ca b none T Vf below args s 0 0) 0 0 T V 0 [(0, rv b (some this))] [] := by
  unfold Hi_drop at h
  refine g_aload_n (pc := 0) G dX0_drop_0 0 rfl ?_
  refine g_getI (pc := 1) G ci_0 (uw_0 G.2.2.2.2.1) (k := 2) (by decide) rfl rfl k_this (q119 G.2.2.2.2.1) dX0_drop_1 ?_
  refine g_if_le (pc := 4) G 17 dX0_drop_4 (by decide) (fun c1 => ?_) (fun c1 => ?_)
  · rw [if_pos c1] at h
    cases h
    exact g_vret (pc := 17) G dX0_drop_17
  · rw [if_neg c1] at h
    refine g_aload_n (pc := 7) G dX0_drop_7 0 rfl ?_
    refine g_dup (pc := 8) G dX0_drop_8 rfl ?_
    refine g_getI (pc := 9) G ci_0 (uw_0 G.2.2.2.2.1) (k := 2) (by decide) rfl rfl k_this (q119 G.2.2.2.2.1) dX0_drop_9 ?_
    refine g_iconst (pc := 12) G (v := 1) dX0_drop_12 (by decide) ?_
    refine g_isub (pc := 13) G dX0_drop_13 ?_
    obtain ⟨V2, e3, h⟩ := lt_e h
    refine g_putI (pc := 14) G ci_0 (uw_0 G.2.2.2.2.1) (k := 2) (by decide) rfl rfl k_this rfl ⟨rfl, rfl⟩ (q119 G.2.2.2.2.1) e3 dX0_drop_14 ?_
    cases h
    exact g_vret (pc := 17) G dX0_drop_17
theorem c_Hi_drop (l : Launch) (D : va_G) (ca : Nat → ClassId) (b : Nat) {T : Tx} {V : Vx} {this : Nat}  {Vf : Vx} (k_this : kd T this = 0) (h : Hi_drop T V this = some Vf) : MG l yX0_drop cX0_drop 1 (Option.none : Option Jvm.ClassFile.FieldType) 0 0 0 0 D ca b [rv b (some this)] T V none T Vf :=
  MG.ofWG (L := [(0, rv b (some this))]) (by decide +kernel) rfl (Nat.le_of_ble_eq_true rfl) (fun _ _ _ _ _ _ _ G _ => w_Hi_drop G ⟨Nat.le_refl _, Nat.le_refl _⟩ k_this h)
set_option maxHeartbeats 4000000 in
set_option maxRecDepth 100000 in
theorem w_Le_size {p : Program} {l : Launch} {e : Env} {R : Room} {s : State} {m : MethodId} {args : Array Value} {below : List Frame} {meth : Method} {c : Code} {D : va_G} {ca : Nat → ClassId} {b : Nat} {T : Tx} {V : Vx} (G : GX p s m meth c cX1_size 1 (Option.some Jvm.ClassFile.FieldType.int) RX1 "size" D ca b) (hR : 0 ≤ R.frames ∧ 0 ≤ R.locals) {this : Nat} {rr : Int32}  (k_this : kd T this = 1) (h : Le_size T V this = some rr) : WG p l e R s m args below meth c D ca b 1 (QG D ca b (some (.int rr)) T V below args s 0 0) 0 0 T V 0 [(0, rv b (some this))] [] := by
  unfold Le_size at h
  refine g_aload_n (pc := 0) G dX1_size_0 0 rfl ?_
  refine g_getI (pc := 1) G ci_1 (uw_1 G.2.2.2.2.1) (k := 1) (by decide) rfl rfl k_this (q89 G.2.2.2.2.1) dX1_size_1 ?_
  cases h
  exact g_iret (pc := 4) G dX1_size_4
theorem c_Le_size (l : Launch) (D : va_G) (ca : Nat → ClassId) (b : Nat) {T : Tx} {V : Vx} {this : Nat} {rr : Int32}  (k_this : kd T this = 1) (h : Le_size T V this = some rr) : MG l yX1_size cX1_size 1 (Option.some Jvm.ClassFile.FieldType.int) 0 0 0 0 D ca b [rv b (some this)] T V (some (.int rr)) T V :=
  MG.ofWG (L := [(0, rv b (some this))]) (by decide +kernel) rfl (Nat.le_of_ble_eq_true rfl) (fun _ _ _ _ _ _ _ G _ => w_Le_size G ⟨Nat.le_refl _, Nat.le_refl _⟩ k_this h)
set_option maxHeartbeats 4000000 in
set_option maxRecDepth 100000 in
theorem w_Le_isFull {p : Program} {l : Launch} {e : Env} {R : Room} {s : State} {m : MethodId} {args : Array Value} {below : List Frame} {meth : Method} {c : Code} {D : va_G} {ca : Nat → ClassId} {b : Nat} {T : Tx} {V : Vx} (G : GX p s m meth c cX1_isFull 1 (Option.some Jvm.ClassFile.FieldType.boolean) RX1 "isFull" D ca b) (hR : 0 ≤ R.frames ∧ 0 ≤ R.locals) {this : Nat} {rr : Int32}  (k_this : kd T this = 1) (h : Le_isFull T V this = some rr) : WG p l e R s m args below meth c D ca b 1 (QG D ca b (some (.int rr)) T V below args s 0 0) 0 0 T V 0 [(0, rv b (some this))] [] := by
  unfold Le_isFull at h
  refine g_aload_n (pc := 0) G dX1_isFull_0 0 rfl ?_
  refine g_getI (pc := 1) G ci_1 (uw_1 G.2.2.2.2.1) (k := 1) (by decide) rfl rfl k_this (q89 G.2.2.2.2.1) dX1_isFull_1 ?_
  refine g_aload_n (pc := 4) G dX1_isFull_4 0 rfl ?_
  obtain ⟨r1, e2, h⟩ := bd_e h
  obtain ⟨f3, k4⟩ := ck_e e2
  refine g_getR (pc := 5) G ci_1 (uw_1 G.2.2.2.2.1) (k := 0) (by decide) rfl rfl k_this (q88 G.2.2.2.2.1) dX1_isFull_5 f3 ?_
  refine g_alen (pc := 8) G (t0 := 0) k4 (by decide) rfl dX1_isFull_8 ?_
  refine g_icmp_lt (pc := 9) G 16 dX1_isFull_9 (by decide) (fun c5 => ?_) (fun c5 => ?_)
  · rw [if_pos c5] at h
    refine g_iconst (pc := 16) G (v := 0) dX1_isFull_16 (by decide) ?_
    cases h
    exact g_zret (pc := 17) G rfl dX1_isFull_17
  · rw [if_neg c5] at h
    refine g_iconst (pc := 12) G (v := 1) dX1_isFull_12 (by decide) ?_
    refine g_goto (pc := 13) G 17 dX1_isFull_13 (by decide) ?_
    cases h
    exact g_zret (pc := 17) G rfl dX1_isFull_17
theorem c_Le_isFull (l : Launch) (D : va_G) (ca : Nat → ClassId) (b : Nat) {T : Tx} {V : Vx} {this : Nat} {rr : Int32}  (k_this : kd T this = 1) (h : Le_isFull T V this = some rr) : MG l yX1_isFull cX1_isFull 1 (Option.some Jvm.ClassFile.FieldType.boolean) 0 0 0 0 D ca b [rv b (some this)] T V (some (.int rr)) T V :=
  MG.ofWG (L := [(0, rv b (some this))]) (by decide +kernel) rfl (Nat.le_of_ble_eq_true rfl) (fun _ _ _ _ _ _ _ G _ => w_Le_isFull G ⟨Nat.le_refl _, Nat.le_refl _⟩ k_this h)
set_option maxHeartbeats 4000000 in
set_option maxRecDepth 100000 in
theorem w_Le_clear {p : Program} {l : Launch} {e : Env} {R : Room} {s : State} {m : MethodId} {args : Array Value} {below : List Frame} {meth : Method} {c : Code} {D : va_G} {ca : Nat → ClassId} {b : Nat} {T : Tx} {V : Vx} (G : GX p s m meth c cX1_clear 1 (Option.none : Option Jvm.ClassFile.FieldType) RX1 "clear" D ca b) (hR : 0 ≤ R.frames ∧ 0 ≤ R.locals) {this : Nat}  {Vf : Vx} (k_this : kd T this = 1) (h : Le_clear T V this = some Vf) : WG p l e R s m args below meth c D ca b 1 (QG D ca b none T Vf below args s 0 0) 0 0 T V 0 [(0, rv b (some this))] [] := by
  unfold Le_clear at h
  refine g_aload_n (pc := 0) G dX1_clear_0 0 rfl ?_
  refine g_iconst (pc := 1) G (v := 0) dX1_clear_1 (by decide) ?_
  obtain ⟨V1, e2, h⟩ := lt_e h
  refine g_putI (pc := 2) G ci_1 (uw_1 G.2.2.2.2.1) (k := 1) (by decide) rfl rfl k_this rfl ⟨rfl, rfl⟩ (q89 G.2.2.2.2.1) e2 dX1_clear_2 ?_
  cases h
  exact g_vret (pc := 5) G dX1_clear_5
theorem c_Le_clear (l : Launch) (D : va_G) (ca : Nat → ClassId) (b : Nat) {T : Tx} {V : Vx} {this : Nat}  {Vf : Vx} (k_this : kd T this = 1) (h : Le_clear T V this = some Vf) : MG l yX1_clear cX1_clear 1 (Option.none : Option Jvm.ClassFile.FieldType) 0 0 0 0 D ca b [rv b (some this)] T V none T Vf :=
  MG.ofWG (L := [(0, rv b (some this))]) (by decide +kernel) rfl (Nat.le_of_ble_eq_true rfl) (fun _ _ _ _ _ _ _ G _ => w_Le_clear G ⟨Nat.le_refl _, Nat.le_refl _⟩ k_this h)
set_option maxHeartbeats 4000000 in
set_option maxRecDepth 100000 in
theorem w_Le_put {p : Program} {l : Launch} {e : Env} {R : Room} {s : State} {m : MethodId} {args : Array Value} {below : List Frame} {meth : Method} {c : Code} {D : va_G} {ca : Nat → ClassId} {b : Nat} {T : Tx} {V : Vx} (G : GX p s m meth c cX1_put 2 (Option.none : Option Jvm.ClassFile.FieldType) RX1 "put" D ca b) (hR : 0 ≤ R.frames ∧ 0 ≤ R.locals) {this : Nat} {p1 : Int32}  {Vf : Vx} (k_this : kd T this = 1) (h : Le_put T V this p1 = some Vf) : WG p l e R s m args below meth c D ca b 2 (QG D ca b none T Vf below args s 0 0) 0 0 T V 0 [(0, rv b (some this)), (1, .int p1)] [] := by
  unfold Le_put at h
  refine g_aload_n (pc := 0) G dX1_put_0 0 rfl ?_
  refine g_getI (pc := 1) G ci_1 (uw_1 G.2.2.2.2.1) (k := 1) (by decide) rfl rfl k_this (q89 G.2.2.2.2.1) dX1_put_1 ?_
  refine g_if_lt (pc := 4) G 39 dX1_put_4 (by decide) (fun c1 => ?_) (fun c1 => ?_)
  · rw [if_pos c1] at h
    cases h
    exact g_vret (pc := 39) G dX1_put_39
  · rw [if_neg c1] at h
    refine g_aload_n (pc := 7) G dX1_put_7 0 rfl ?_
    refine g_getI (pc := 8) G ci_1 (uw_1 G.2.2.2.2.1) (k := 1) (by decide) rfl rfl k_this (q89 G.2.2.2.2.1) dX1_put_8 ?_
    refine g_aload_n (pc := 11) G dX1_put_11 0 rfl ?_
    obtain ⟨r2, e3, h⟩ := bd_e h
    obtain ⟨f4, k5⟩ := ck_e e3
    refine g_getR (pc := 12) G ci_1 (uw_1 G.2.2.2.2.1) (k := 0) (by decide) rfl rfl k_this (q88 G.2.2.2.2.1) dX1_put_12 f4 ?_
    refine g_alen (pc := 15) G (t0 := 0) k5 (by decide) rfl dX1_put_15 ?_
    refine g_icmp_ge (pc := 16) G 39 dX1_put_16 (by decide) (fun c6 => ?_) (fun c6 => ?_)
    · rw [if_pos c6] at h
      cases h
      exact g_vret (pc := 39) G dX1_put_39
    · rw [if_neg c6] at h
      refine g_aload_n (pc := 19) G dX1_put_19 0 rfl ?_
      obtain ⟨r7, e8, h⟩ := bd_e h
      obtain ⟨f9, k10⟩ := ck_e e8
      refine g_getR (pc := 20) G ci_1 (uw_1 G.2.2.2.2.1) (k := 0) (by decide) rfl rfl k_this (q88 G.2.2.2.2.1) dX1_put_20 f9 ?_
      refine g_aload_n (pc := 23) G dX1_put_23 0 rfl ?_
      refine g_getI (pc := 24) G ci_1 (uw_1 G.2.2.2.2.1) (k := 1) (by decide) rfl rfl k_this (q89 G.2.2.2.2.1) dX1_put_24 ?_
      refine g_iload_n (pc := 27) G dX1_put_27 1 rfl ?_
      obtain ⟨b11, h⟩ := gd_e h
      obtain ⟨V12, e13, h⟩ := lt_e h
      refine g_cast (pc := 28) G k10 b11 e13 dX1_put_28 ?_
      refine g_aload_n (pc := 29) G dX1_put_29 0 rfl ?_
      refine g_dup (pc := 30) G dX1_put_30 rfl ?_
      refine g_getI (pc := 31) G ci_1 (uw_1 G.2.2.2.2.1) (k := 1) (by decide) rfl rfl k_this (q89 G.2.2.2.2.1) dX1_put_31 ?_
      refine g_iconst (pc := 34) G (v := 1) dX1_put_34 (by decide) ?_
      refine g_iadd (pc := 35) G dX1_put_35 ?_
      obtain ⟨V14, e15, h⟩ := lt_e h
      refine g_putI (pc := 36) G ci_1 (uw_1 G.2.2.2.2.1) (k := 1) (by decide) rfl rfl k_this rfl ⟨rfl, rfl⟩ (q89 G.2.2.2.2.1) e15 dX1_put_36 ?_
      cases h
      exact g_vret (pc := 39) G dX1_put_39
theorem c_Le_put (l : Launch) (D : va_G) (ca : Nat → ClassId) (b : Nat) {T : Tx} {V : Vx} {this : Nat} {p1 : Int32}  {Vf : Vx} (k_this : kd T this = 1) (h : Le_put T V this p1 = some Vf) : MG l yX1_put cX1_put 2 (Option.none : Option Jvm.ClassFile.FieldType) 0 0 0 0 D ca b [rv b (some this), .int p1] T V none T Vf :=
  MG.ofWG (L := [(0, rv b (some this)), (1, .int p1)]) (by decide +kernel) rfl (Nat.le_of_ble_eq_true rfl) (fun _ _ _ _ _ _ _ G _ => w_Le_put G ⟨Nat.le_refl _, Nat.le_refl _⟩ k_this h)
set_option maxHeartbeats 4000000 in
set_option maxRecDepth 100000 in
theorem w_Le_at {p : Program} {l : Launch} {e : Env} {R : Room} {s : State} {m : MethodId} {args : Array Value} {below : List Frame} {meth : Method} {c : Code} {D : va_G} {ca : Nat → ClassId} {b : Nat} {T : Tx} {V : Vx} (G : GX p s m meth c cX1_at 2 (Option.some Jvm.ClassFile.FieldType.int) RX1 "at" D ca b) (hR : 0 ≤ R.frames ∧ 0 ≤ R.locals) {this : Nat} {p1 : Int32} {rr : Int32}  (k_this : kd T this = 1) (h : Le_at T V this p1 = some rr) : WG p l e R s m args below meth c D ca b 2 (QG D ca b (some (.int rr)) T V below args s 0 0) 0 0 T V 0 [(0, rv b (some this)), (1, .int p1)] [] := by
  unfold Le_at at h
  refine g_iload_n (pc := 0) G dX1_at_0 1 rfl ?_
  refine g_if_lt (pc := 1) G 30 dX1_at_1 (by decide) (fun c1 => ?_) (fun c1 => ?_)
  · rw [if_pos c1] at h
    refine g_bipush (pc := 30) G (v := (-4)) dX1_at_30 (by decide) ?_
    cases h
    exact g_iret (pc := 32) G dX1_at_32
  · rw [if_neg c1] at h
    refine g_iload_n (pc := 4) G dX1_at_4 1 rfl ?_
    refine g_aload_n (pc := 5) G dX1_at_5 0 rfl ?_
    refine g_getI (pc := 6) G ci_1 (uw_1 G.2.2.2.2.1) (k := 1) (by decide) rfl rfl k_this (q89 G.2.2.2.2.1) dX1_at_6 ?_
    refine g_icmp_ge (pc := 9) G 30 dX1_at_9 (by decide) (fun c2 => ?_) (fun c2 => ?_)
    · rw [if_pos c2] at h
      refine g_bipush (pc := 30) G (v := (-4)) dX1_at_30 (by decide) ?_
      cases h
      exact g_iret (pc := 32) G dX1_at_32
    · rw [if_neg c2] at h
      refine g_iload_n (pc := 12) G dX1_at_12 1 rfl ?_
      refine g_aload_n (pc := 13) G dX1_at_13 0 rfl ?_
      obtain ⟨r3, e4, h⟩ := bd_e h
      obtain ⟨f5, k6⟩ := ck_e e4
      refine g_getR (pc := 14) G ci_1 (uw_1 G.2.2.2.2.1) (k := 0) (by decide) rfl rfl k_this (q88 G.2.2.2.2.1) dX1_at_14 f5 ?_
      refine g_alen (pc := 17) G (t0 := 0) k6 (by decide) rfl dX1_at_17 ?_
      refine g_icmp_ge (pc := 18) G 30 dX1_at_18 (by decide) (fun c7 => ?_) (fun c7 => ?_)
      · rw [if_pos c7] at h
        refine g_bipush (pc := 30) G (v := (-4)) dX1_at_30 (by decide) ?_
        cases h
        exact g_iret (pc := 32) G dX1_at_32
      · rw [if_neg c7] at h
        refine g_aload_n (pc := 21) G dX1_at_21 0 rfl ?_
        obtain ⟨r8, e9, h⟩ := bd_e h
        obtain ⟨f10, k11⟩ := ck_e e9
        refine g_getR (pc := 22) G ci_1 (uw_1 G.2.2.2.2.1) (k := 0) (by decide) rfl rfl k_this (q88 G.2.2.2.2.1) dX1_at_22 f10 ?_
        refine g_iload_n (pc := 25) G dX1_at_25 1 rfl ?_
        obtain ⟨b12, h⟩ := gd_e h
        refine g_cald (pc := 26) G k11 b12 dX1_at_26 ?_
        refine g_goto (pc := 27) G 32 dX1_at_27 (by decide) ?_
        cases h
        exact g_iret (pc := 32) G dX1_at_32
theorem c_Le_at (l : Launch) (D : va_G) (ca : Nat → ClassId) (b : Nat) {T : Tx} {V : Vx} {this : Nat} {p1 : Int32} {rr : Int32}  (k_this : kd T this = 1) (h : Le_at T V this p1 = some rr) : MG l yX1_at cX1_at 2 (Option.some Jvm.ClassFile.FieldType.int) 0 0 0 0 D ca b [rv b (some this), .int p1] T V (some (.int rr)) T V :=
  MG.ofWG (L := [(0, rv b (some this)), (1, .int p1)]) (by decide +kernel) rfl (Nat.le_of_ble_eq_true rfl) (fun _ _ _ _ _ _ _ G _ => w_Le_at G ⟨Nat.le_refl _, Nat.le_refl _⟩ k_this h)
set_option maxHeartbeats 4000000 in
set_option maxRecDepth 100000 in
theorem w_Le_find {p : Program} {l : Launch} {e : Env} {R : Room} {s : State} {m : MethodId} {args : Array Value} {below : List Frame} {meth : Method} {c : Code} {D : va_G} {ca : Nat → ClassId} {b : Nat} {T : Tx} {V : Vx} (G : GX p s m meth c cX1_find 4 (Option.some Jvm.ClassFile.FieldType.int) RX1 "find" D ca b) (hR : 1 ≤ R.frames ∧ 21 ≤ R.locals) {this : Nat} {p1 : Int32} {p2 : Int32} {rr : Int32}  (k_this : kd T this = 1) (h : Le_find T V this p1 p2 = some rr) : WG p l e R s m args below meth c D ca b 4 (QG D ca b (some (.int rr)) T V below args s 0 0) 0 0 T V 0 [(0, rv b (some this)), (1, .int p1), (2, .int p2)] [] := by
  unfold Le_find at h
  refine g_iload_n (pc := 0) G dX1_find_0 2 rfl ?_
  refine g_iconst (pc := 1) G (v := 0) dX1_find_1 (by decide) ?_
  refine g_mmax (pc := 2) G (q85 G.2.2.2.2.1) (q86 G.2.2.2.2.1) (q55 G.2.2.2.2.1) (q_mmax G.2.2.2.2.1) ⟨Nat.le_trans (Nat.le_of_ble_eq_true rfl) hR.1, Nat.le_trans (Nat.le_of_ble_eq_true rfl) hR.2⟩ ⟨Nat.zero_le _, Nat.zero_le _⟩ dX1_find_2 ?_
  obtain ⟨x1, e2, h⟩ := lt_e h
  rw [e2]
  refine g_istore_n (L' := [(3, .int x1), (0, rv b (some this)), (1, .int p1), (2, .int p2)]) (pc := 5) G dX1_find_5 (by decide) rfl ?_
  have LP6 : ∀ (n3 : Nat) (v4 : Int32), Le_find_L6 T V this p1 n3 v4 = some rr → WG p l e R s m args below meth c D ca b 4 (QG D ca b (some (.int rr)) T V below args s 0 0) 0 0 T V 6 [(0, rv b (some this)), (1, .int p1), (3, .int v4)] [] := by
    intro n3
    induction n3 with
    | zero =>
      intro v4 h
      cases h
    | succ n3 ih5 =>
      intro v4 h
      rw [Le_find_L6] at h
      refine g_iload_n (pc := 6) G dX1_find_6 2 rfl ?_
      refine g_aload_n (pc := 7) G dX1_find_7 0 rfl ?_
      refine g_getI (pc := 8) G ci_1 (uw_1 G.2.2.2.2.1) (k := 1) (by decide) rfl rfl k_this (q89 G.2.2.2.2.1) dX1_find_8 ?_
      refine g_icmp_ge (pc := 11) G 31 dX1_find_11 (by decide) (fun c7 => ?_) (fun c7 => ?_)
      · rw [if_pos c7] at h
        refine g_bipush (pc := 31) G (v := (-4)) dX1_find_31 (by decide) ?_
        cases h
        exact g_iret (pc := 33) G dX1_find_33
      · rw [if_neg c7] at h
        refine g_aload_n (pc := 14) G dX1_find_14 0 rfl ?_
        refine g_iload_n (pc := 15) G dX1_find_15 2 rfl ?_
        obtain ⟨r9, e8, h⟩ := bd_e h
        refine g_callV (pc := 16) (As := [.int v4]) (rest := []) (st2 := [.int r9]) G (c_Le_at l D ca b k_this e8) (mb_Le_at G.2.2.2.2.1) (q340 G.2.2.2.2.1) (q341 G.2.2.2.2.1) (q339 G.2.2.2.2.1) ci_1 k_this rfl rfl (Nat.le_of_ble_eq_true rfl) ⟨Nat.le_trans (Nat.le_of_ble_eq_true rfl) hR.1, Nat.le_trans (Nat.le_of_ble_eq_true rfl) hR.2⟩ ⟨Nat.zero_le _, Nat.zero_le _⟩ rfl rfl dX1_find_16 ?_
        refine g_iload_n (pc := 19) G dX1_find_19 1 rfl ?_
        refine g_icmp_ne (pc := 20) G 25 dX1_find_20 (by decide) (fun c10 => ?_) (fun c10 => ?_)
        · rw [if_neg c10] at h
          refine g_iinc (v := v4 + 1) (L' := [(3, .int (v4 + 1)), (0, rv b (some this)), (1, .int p1)]) (pc := 25) G dX1_find_25 2 rfl rfl (by decide) rfl ?_
          refine g_goto (pc := 28) G 6 dX1_find_28 (by decide) ?_
          exact g_sub [1, 2, 0] rfl (ih5 _ h)
        · rw [if_pos c10] at h
          refine g_iload_n (pc := 23) G dX1_find_23 2 rfl ?_
          cases h
          exact g_iret (pc := 24) G dX1_find_24
  exact g_sub [1, 2, 0] rfl (LP6 _ _ h)
theorem c_Le_find (l : Launch) (D : va_G) (ca : Nat → ClassId) (b : Nat) {T : Tx} {V : Vx} {this : Nat} {p1 : Int32} {p2 : Int32} {rr : Int32}  (k_this : kd T this = 1) (h : Le_find T V this p1 p2 = some rr) : MG l yX1_find cX1_find 4 (Option.some Jvm.ClassFile.FieldType.int) 1 21 0 0 D ca b [rv b (some this), .int p1, .int p2] T V (some (.int rr)) T V :=
  MG.ofWG (L := [(0, rv b (some this)), (1, .int p1), (2, .int p2)]) (by decide +kernel) rfl (Nat.le_of_ble_eq_true rfl) (fun _ _ _ _ _ _ _ G _ => w_Le_find G ⟨Nat.le_refl _, Nat.le_refl _⟩ k_this h)
set_option maxHeartbeats 4000000 in
set_option maxRecDepth 100000 in
theorem w_Le_become {p : Program} {l : Launch} {e : Env} {R : Room} {s : State} {m : MethodId} {args : Array Value} {below : List Frame} {meth : Method} {c : Code} {D : va_G} {ca : Nat → ClassId} {b : Nat} {T : Tx} {V : Vx} (G : GX p s m meth c cX1_become 6 (Option.some Jvm.ClassFile.FieldType.boolean) RX1 "become" D ca b) (hR : 1 ≤ R.frames ∧ 21 ≤ R.locals) {this : Nat} {p1 : Nat} {p2 : Int32} {p3 : Int32} {rr : Int32} {Vf : Vx} (k_this : kd T this = 1) (k_p1 : kd T p1 = 1) (h : Le_become T V this p1 p2 p3 = some (rr, Vf)) : WG p l e R s m args below meth c D ca b 6 (QG D ca b (some (.int rr)) T Vf below args s 0 0) 0 0 T V 0 [(0, rv b (some this)), (1, rv b (some p1)), (2, .int p2), (3, .int p3)] [] := by
  unfold Le_become at h
  refine g_aload_n (pc := 0) G dX1_become_0 0 rfl ?_
  obtain ⟨V2, e1, h⟩ := bd_e h
  refine g_callV (pc := 1) (As := []) (rest := []) (st2 := []) G (c_Le_clear l D ca b k_this e1) (mb_Le_clear G.2.2.2.2.1) (q362 G.2.2.2.2.1) (q363 G.2.2.2.2.1) (q361 G.2.2.2.2.1) ci_1 k_this rfl rfl (Nat.le_of_ble_eq_true rfl) ⟨Nat.le_trans (Nat.le_of_ble_eq_true rfl) hR.1, Nat.le_trans (Nat.le_of_ble_eq_true rfl) hR.2⟩ ⟨Nat.zero_le _, Nat.zero_le _⟩ rfl rfl dX1_become_1 ?_
  refine g_iload_n (pc := 4) G dX1_become_4 2 rfl ?_
  refine g_iload_n (pc := 5) G dX1_become_5 3 rfl ?_
  refine g_icmp_ge (pc := 6) G 20 dX1_become_6 (by decide) (fun c3 => ?_) (fun c3 => ?_)
  · rw [if_pos c3] at h
    refine g_iconst (pc := 20) G (v := 0) dX1_become_20 (by decide) ?_
    cases h
    exact g_zret (pc := 21) G rfl dX1_become_21
  · rw [if_neg c3] at h
    refine g_iload_n (pc := 9) G dX1_become_9 3 rfl ?_
    refine g_iload_n (pc := 10) G dX1_become_10 2 rfl ?_
    refine g_isub (pc := 11) G dX1_become_11 ?_
    refine g_aload_n (pc := 12) G dX1_become_12 0 rfl ?_
    obtain ⟨r4, e5, h⟩ := bd_e h
    obtain ⟨f6, k7⟩ := ck_e e5
    refine g_getR (pc := 13) G ci_1 (uw_1 G.2.2.2.2.1) (k := 0) (by decide) rfl rfl k_this (q88 G.2.2.2.2.1) dX1_become_13 f6 ?_
    refine g_alen (pc := 16) G (t0 := 0) k7 (by decide) rfl dX1_become_16 ?_
    refine g_icmp_le (pc := 17) G 22 dX1_become_17 (by decide) (fun c8 => ?_) (fun c8 => ?_)
    · rw [if_pos c8] at h
      refine g_iload_n (pc := 22) G dX1_become_22 2 rfl ?_
      refine g_istore (L' := [(4, .int p2), (0, rv b (some this)), (1, rv b (some p1)), (2, .int p2), (3, .int p3)]) (pc := 23) G dX1_become_23 (by decide) rfl ?_
      have LP13 : ∀ (n9 : Nat) (V11 : Vx) (v10 : Int32), Le_become_L25 T this p1 p3 n9 V11 v10 = some (rr, Vf) → WG p l e R s m args below meth c D ca b 6 (QG D ca b (some (.int rr)) T Vf below args s 0 0) 0 0 T V11 25 [(0, rv b (some this)), (1, rv b (some p1)), (3, .int p3), (4, .int v10)] [] := by
        intro n9
        induction n9 with
        | zero =>
          intro V11 v10 h
          cases h
        | succ n9 ih12 =>
          intro V11 v10 h
          rw [Le_become_L25] at h
          refine g_iload (pc := 25) G dX1_become_25 3 rfl ?_
          refine g_iload_n (pc := 27) G dX1_become_27 2 rfl ?_
          refine g_icmp_ge (pc := 28) G 68 dX1_become_28 (by decide) (fun c14 => ?_) (fun c14 => ?_)
          · rw [if_pos c14] at h
            refine g_iconst (pc := 68) G (v := 1) dX1_become_68 (by decide) ?_
            cases h
            exact g_zret (pc := 69) G rfl dX1_become_69
          · rw [if_neg c14] at h
            refine g_aload_n (pc := 31) G dX1_become_31 1 rfl ?_
            refine g_iload (pc := 32) G dX1_become_32 3 rfl ?_
            obtain ⟨r16, e15, h⟩ := bd_e h
            refine g_callV (pc := 34) (As := [.int v10]) (rest := []) (st2 := [.int r16]) G (c_Le_at l D ca b k_p1 e15) (mb_Le_at G.2.2.2.2.1) (q340 G.2.2.2.2.1) (q341 G.2.2.2.2.1) (q339 G.2.2.2.2.1) ci_1 k_p1 rfl rfl (Nat.le_of_ble_eq_true rfl) ⟨Nat.le_trans (Nat.le_of_ble_eq_true rfl) hR.1, Nat.le_trans (Nat.le_of_ble_eq_true rfl) hR.2⟩ ⟨Nat.zero_le _, Nat.zero_le _⟩ rfl rfl dX1_become_34 ?_
            refine g_istore (L' := [(5, .int r16), (0, rv b (some this)), (1, rv b (some p1)), (3, .int p3), (4, .int v10)]) (pc := 37) G dX1_become_37 (by decide) rfl ?_
            refine g_iload (pc := 39) G dX1_become_39 0 rfl ?_
            refine g_bipush (pc := 41) G (v := 97) dX1_become_41 (by decide) ?_
            refine g_icmp_lt (pc := 43) G 53 dX1_become_43 (by decide) (fun c17 => ?_) (fun c17 => ?_)
            · rw [if_pos c17] at h
              refine g_iconst (pc := 53) G (v := 0) dX1_become_53 (by decide) ?_
              cases h
              exact g_zret (pc := 54) G rfl dX1_become_54
            · rw [if_neg c17] at h
              refine g_iload (pc := 46) G dX1_become_46 0 rfl ?_
              refine g_bipush (pc := 48) G (v := 122) dX1_become_48 (by decide) ?_
              refine g_icmp_le (pc := 50) G 55 dX1_become_50 (by decide) (fun c18 => ?_) (fun c18 => ?_)
              · rw [if_pos c18] at h
                refine g_aload_n (pc := 55) G dX1_become_55 1 rfl ?_
                refine g_iload (pc := 56) G dX1_become_56 0 rfl ?_
                refine g_i2c (pc := 58) G dX1_become_58 ?_
                obtain ⟨V20, e19, h⟩ := bd_e h
                refine g_callV (pc := 59) (As := [.int ((Int32.toUInt32 r16 % 65536).toInt32)]) (rest := []) (st2 := []) G (c_Le_put l D ca b k_this e19) (mb_Le_put G.2.2.2.2.1) (q231 G.2.2.2.2.1) (q232 G.2.2.2.2.1) (q365 G.2.2.2.2.1) ci_1 k_this rfl rfl (Nat.le_of_ble_eq_true rfl) ⟨Nat.le_trans (Nat.le_of_ble_eq_true rfl) hR.1, Nat.le_trans (Nat.le_of_ble_eq_true rfl) hR.2⟩ ⟨Nat.zero_le _, Nat.zero_le _⟩ rfl rfl dX1_become_59 ?_
                refine g_iinc (v := v10 + 1) (L' := [(4, .int (v10 + 1)), (5, .int r16), (0, rv b (some this)), (1, rv b (some p1)), (3, .int p3)]) (pc := 62) G dX1_become_62 4 rfl rfl (by decide) rfl ?_
                refine g_goto (pc := 65) G 25 dX1_become_65 (by decide) ?_
                exact g_sub [2, 3, 4, 0] rfl (ih12 _ _ h)
              · rw [if_neg c18] at h
                refine g_iconst (pc := 53) G (v := 0) dX1_become_53 (by decide) ?_
                cases h
                exact g_zret (pc := 54) G rfl dX1_become_54
      exact g_sub [1, 2, 4, 0] rfl (LP13 _ _ _ h)
    · rw [if_neg c8] at h
      refine g_iconst (pc := 20) G (v := 0) dX1_become_20 (by decide) ?_
      cases h
      exact g_zret (pc := 21) G rfl dX1_become_21
theorem c_Le_become (l : Launch) (D : va_G) (ca : Nat → ClassId) (b : Nat) {T : Tx} {V : Vx} {this : Nat} {p1 : Nat} {p2 : Int32} {p3 : Int32} {rr : Int32} {Vf : Vx} (k_this : kd T this = 1) (k_p1 : kd T p1 = 1) (h : Le_become T V this p1 p2 p3 = some (rr, Vf)) : MG l yX1_become cX1_become 6 (Option.some Jvm.ClassFile.FieldType.boolean) 1 21 0 0 D ca b [rv b (some this), rv b (some p1), .int p2, .int p3] T V (some (.int rr)) T Vf :=
  MG.ofWG (L := [(0, rv b (some this)), (1, rv b (some p1)), (2, .int p2), (3, .int p3)]) (by decide +kernel) rfl (Nat.le_of_ble_eq_true rfl) (fun _ _ _ _ _ _ _ G _ => w_Le_become G ⟨Nat.le_refl _, Nat.le_refl _⟩ k_this k_p1 h)
set_option maxHeartbeats 4000000 in
set_option maxRecDepth 100000 in
theorem w_Le_isVowelAt {p : Program} {l : Launch} {e : Env} {R : Room} {s : State} {m : MethodId} {args : Array Value} {below : List Frame} {meth : Method} {c : Code} {D : va_G} {ca : Nat → ClassId} {b : Nat} {T : Tx} {V : Vx} (G : GX p s m meth c cX1_isVowelAt 2 (Option.some Jvm.ClassFile.FieldType.boolean) RX1 "isVowelAt" D ca b) (hR : 0 ≤ R.frames ∧ 0 ≤ R.locals) {this : Nat} {p1 : Int32} {rr : Int32}  (k_this : kd T this = 1) (h : Le_isVowelAt T V this p1 = some rr) : WG p l e R s m args below meth c D ca b 2 (QG D ca b (some (.int rr)) T V below args s 0 0) 0 0 T V 0 [(0, rv b (some this)), (1, .int p1)] [] := by
  unfold Le_isVowelAt at h
  refine g_iload_n (pc := 0) G dX1_isVowelAt_0 1 rfl ?_
  refine g_if_lt (pc := 1) G 21 dX1_isVowelAt_1 (by decide) (fun c1 => ?_) (fun c1 => ?_)
  · rw [if_pos c1] at h
    refine g_iconst (pc := 21) G (v := 0) dX1_isVowelAt_21 (by decide) ?_
    cases h
    exact g_zret (pc := 22) G rfl dX1_isVowelAt_22
  · rw [if_neg c1] at h
    refine g_iload_n (pc := 4) G dX1_isVowelAt_4 1 rfl ?_
    refine g_aload_n (pc := 5) G dX1_isVowelAt_5 0 rfl ?_
    refine g_getI (pc := 6) G ci_1 (uw_1 G.2.2.2.2.1) (k := 1) (by decide) rfl rfl k_this (q89 G.2.2.2.2.1) dX1_isVowelAt_6 ?_
    refine g_icmp_ge (pc := 9) G 21 dX1_isVowelAt_9 (by decide) (fun c2 => ?_) (fun c2 => ?_)
    · rw [if_pos c2] at h
      refine g_iconst (pc := 21) G (v := 0) dX1_isVowelAt_21 (by decide) ?_
      cases h
      exact g_zret (pc := 22) G rfl dX1_isVowelAt_22
    · rw [if_neg c2] at h
      refine g_iload_n (pc := 12) G dX1_isVowelAt_12 1 rfl ?_
      refine g_aload_n (pc := 13) G dX1_isVowelAt_13 0 rfl ?_
      obtain ⟨r3, e4, h⟩ := bd_e h
      obtain ⟨f5, k6⟩ := ck_e e4
      refine g_getR (pc := 14) G ci_1 (uw_1 G.2.2.2.2.1) (k := 0) (by decide) rfl rfl k_this (q88 G.2.2.2.2.1) dX1_isVowelAt_14 f5 ?_
      refine g_alen (pc := 17) G (t0 := 0) k6 (by decide) rfl dX1_isVowelAt_17 ?_
      refine g_icmp_lt (pc := 18) G 23 dX1_isVowelAt_18 (by decide) (fun c7 => ?_) (fun c7 => ?_)
      · rw [if_pos c7] at h
        refine g_aload_n (pc := 23) G dX1_isVowelAt_23 0 rfl ?_
        obtain ⟨r8, e9, h⟩ := bd_e h
        obtain ⟨f10, k11⟩ := ck_e e9
        refine g_getR (pc := 24) G ci_1 (uw_1 G.2.2.2.2.1) (k := 0) (by decide) rfl rfl k_this (q88 G.2.2.2.2.1) dX1_isVowelAt_24 f10 ?_
        refine g_iload_n (pc := 27) G dX1_isVowelAt_27 1 rfl ?_
        obtain ⟨b12, h⟩ := gd_e h
        refine g_cald (pc := 28) G k11 b12 dX1_isVowelAt_28 ?_
        by_cases c13 : (aI V r8 p1.toNatClampNeg) = 97 ∨ (aI V r8 p1.toNatClampNeg) = 101 ∨ (aI V r8 p1.toNatClampNeg) = 105 ∨ (aI V r8 p1.toNatClampNeg) = 111 ∨ (aI V r8 p1.toNatClampNeg) = 117
        · rw [if_pos c13] at h
          have K14 : WG p l e R s m args below meth c D ca b 2 (QG D ca b (some (.int rr)) T V below args s 0 0) 0 0 T V 80 [(0, rv b (some this)), (1, .int p1)] [] := by
            refine g_iconst (pc := 80) G (v := 1) dX1_isVowelAt_80 (by decide) ?_
            cases h
            exact g_zret (pc := 81) G rfl dX1_isVowelAt_81
          rcases c13 with c13 | c13 | c13 | c13 | c13
          · exact g_look (pc := 29) G 80 dX1_isVowelAt_29 (by decide) (by rw [c13] <;> decide) (by decide) K14
          · exact g_look (pc := 29) G 80 dX1_isVowelAt_29 (by decide) (by rw [c13] <;> decide) (by decide) K14
          · exact g_look (pc := 29) G 80 dX1_isVowelAt_29 (by decide) (by rw [c13] <;> decide) (by decide) K14
          · exact g_look (pc := 29) G 80 dX1_isVowelAt_29 (by decide) (by rw [c13] <;> decide) (by decide) K14
          · exact g_look (pc := 29) G 80 dX1_isVowelAt_29 (by decide) (by rw [c13] <;> decide) (by decide) K14
        · rw [if_neg c13] at h
          have K14 : WG p l e R s m args below meth c D ca b 2 (QG D ca b (some (.int rr)) T V below args s 0 0) 0 0 T V 82 [(0, rv b (some this)), (1, .int p1)] [] := by
            refine g_iconst (pc := 82) G (v := 0) dX1_isVowelAt_82 (by decide) ?_
            cases h
            exact g_zret (pc := 83) G rfl dX1_isVowelAt_83
          exact g_look (off := 53) (pc := 29) G 82 dX1_isVowelAt_29 (by decide) ((lv_osw (k := 97) (fun z => c13 (Or.inl z)) (by decide)).trans ((lv_osw (k := 101) (fun z => c13 (Or.inr (Or.inl z))) (by decide)).trans ((lv_osw (k := 105) (fun z => c13 (Or.inr (Or.inr (Or.inl z)))) (by decide)).trans ((lv_osw (k := 111) (fun z => c13 (Or.inr (Or.inr (Or.inr (Or.inl z))))) (by decide)).trans ((lv_osw (k := 117) (fun z => c13 (Or.inr (Or.inr (Or.inr (Or.inr (z)))))) (by decide)).trans rfl))))) (by decide) K14
      · rw [if_neg c7] at h
        refine g_iconst (pc := 21) G (v := 0) dX1_isVowelAt_21 (by decide) ?_
        cases h
        exact g_zret (pc := 22) G rfl dX1_isVowelAt_22
theorem c_Le_isVowelAt (l : Launch) (D : va_G) (ca : Nat → ClassId) (b : Nat) {T : Tx} {V : Vx} {this : Nat} {p1 : Int32} {rr : Int32}  (k_this : kd T this = 1) (h : Le_isVowelAt T V this p1 = some rr) : MG l yX1_isVowelAt cX1_isVowelAt 2 (Option.some Jvm.ClassFile.FieldType.boolean) 0 0 0 0 D ca b [rv b (some this), .int p1] T V (some (.int rr)) T V :=
  MG.ofWG (L := [(0, rv b (some this)), (1, .int p1)]) (by decide +kernel) rfl (Nat.le_of_ble_eq_true rfl) (fun _ _ _ _ _ _ _ G _ => w_Le_isVowelAt G ⟨Nat.le_refl _, Nat.le_refl _⟩ k_this h)
set_option maxHeartbeats 4000000 in
set_option maxRecDepth 100000 in
theorem w_Le_vowels {p : Program} {l : Launch} {e : Env} {R : Room} {s : State} {m : MethodId} {args : Array Value} {below : List Frame} {meth : Method} {c : Code} {D : va_G} {ca : Nat → ClassId} {b : Nat} {T : Tx} {V : Vx} (G : GX p s m meth c cX1_vowels 3 (Option.some Jvm.ClassFile.FieldType.int) RX1 "vowels" D ca b) (hR : 1 ≤ R.frames ∧ 21 ≤ R.locals) {this : Nat} {rr : Int32}  (k_this : kd T this = 1) (h : Le_vowels T V this = some rr) : WG p l e R s m args below meth c D ca b 3 (QG D ca b (some (.int rr)) T V below args s 0 0) 0 0 T V 0 [(0, rv b (some this))] [] := by
  unfold Le_vowels at h
  refine g_iconst (pc := 0) G (v := 0) dX1_vowels_0 (by decide) ?_
  refine g_istore_n (L' := [(1, .int 0), (0, rv b (some this))]) (pc := 1) G dX1_vowels_1 (by decide) rfl ?_
  refine g_iconst (pc := 2) G (v := 0) dX1_vowels_2 (by decide) ?_
  refine g_istore_n (L' := [(2, .int 0), (1, .int 0), (0, rv b (some this))]) (pc := 3) G dX1_vowels_3 (by decide) rfl ?_
  have LP5 : ∀ (n1 : Nat) (v2 : Int32) (v3 : Int32), Le_vowels_L4 T V this n1 v2 v3 = some rr → WG p l e R s m args below meth c D ca b 3 (QG D ca b (some (.int rr)) T V below args s 0 0) 0 0 T V 4 [(0, rv b (some this)), (1, .int v2), (2, .int v3)] [] := by
    intro n1
    induction n1 with
    | zero =>
      intro v2 v3 h
      cases h
    | succ n1 ih4 =>
      intro v2 v3 h
      rw [Le_vowels_L4] at h
      refine g_iload_n (pc := 4) G dX1_vowels_4 2 rfl ?_
      refine g_aload_n (pc := 5) G dX1_vowels_5 0 rfl ?_
      refine g_getI (pc := 6) G ci_1 (uw_1 G.2.2.2.2.1) (k := 1) (by decide) rfl rfl k_this (q89 G.2.2.2.2.1) dX1_vowels_6 ?_
      refine g_icmp_ge (pc := 9) G 29 dX1_vowels_9 (by decide) (fun c6 => ?_) (fun c6 => ?_)
      · rw [if_pos c6] at h
        refine g_iload_n (pc := 29) G dX1_vowels_29 1 rfl ?_
        cases h
        exact g_iret (pc := 30) G dX1_vowels_30
      · rw [if_neg c6] at h
        refine g_aload_n (pc := 12) G dX1_vowels_12 0 rfl ?_
        refine g_iload_n (pc := 13) G dX1_vowels_13 2 rfl ?_
        obtain ⟨r8, e7, h⟩ := bd_e h
        refine g_callV (pc := 14) (As := [.int v3]) (rest := []) (st2 := [.int r8]) G (c_Le_isVowelAt l D ca b k_this e7) (mb_Le_isVowelAt G.2.2.2.2.1) (q570 G.2.2.2.2.1) (q571 G.2.2.2.2.1) (q597 G.2.2.2.2.1) ci_1 k_this rfl rfl (Nat.le_of_ble_eq_true rfl) ⟨Nat.le_trans (Nat.le_of_ble_eq_true rfl) hR.1, Nat.le_trans (Nat.le_of_ble_eq_true rfl) hR.2⟩ ⟨Nat.zero_le _, Nat.zero_le _⟩ rfl rfl dX1_vowels_14 ?_
        refine g_if_eq (pc := 17) G 23 dX1_vowels_17 (by decide) (fun c9 => ?_) (fun c9 => ?_)
        · rw [if_pos c9] at h
          refine g_iinc (v := v3 + 1) (L' := [(2, .int (v3 + 1)), (0, rv b (some this)), (1, .int v2)]) (pc := 23) G dX1_vowels_23 2 rfl rfl (by decide) rfl ?_
          refine g_goto (pc := 26) G 4 dX1_vowels_26 (by decide) ?_
          exact g_sub [1, 2, 0] rfl (ih4 _ _ h)
        · rw [if_neg c9] at h
          refine g_iinc (v := v2 + 1) (L' := [(1, .int (v2 + 1)), (0, rv b (some this)), (2, .int v3)]) (pc := 20) G dX1_vowels_20 1 rfl rfl (by decide) rfl ?_
          refine g_iinc (v := v3 + 1) (L' := [(2, .int (v3 + 1)), (1, .int (v2 + 1)), (0, rv b (some this))]) (pc := 23) G dX1_vowels_23 2 rfl rfl (by decide) rfl ?_
          refine g_goto (pc := 26) G 4 dX1_vowels_26 (by decide) ?_
          exact g_sub [2, 1, 0] rfl (ih4 _ _ h)
  exact g_sub [2, 1, 0] rfl (LP5 _ _ _ h)
theorem c_Le_vowels (l : Launch) (D : va_G) (ca : Nat → ClassId) (b : Nat) {T : Tx} {V : Vx} {this : Nat} {rr : Int32}  (k_this : kd T this = 1) (h : Le_vowels T V this = some rr) : MG l yX1_vowels cX1_vowels 3 (Option.some Jvm.ClassFile.FieldType.int) 1 21 0 0 D ca b [rv b (some this)] T V (some (.int rr)) T V :=
  MG.ofWG (L := [(0, rv b (some this))]) (by decide +kernel) rfl (Nat.le_of_ble_eq_true rfl) (fun _ _ _ _ _ _ _ G _ => w_Le_vowels G ⟨Nat.le_refl _, Nat.le_refl _⟩ k_this h)
set_option maxHeartbeats 4000000 in
set_option maxRecDepth 100000 in
theorem w_Le_hasAt {p : Program} {l : Launch} {e : Env} {R : Room} {s : State} {m : MethodId} {args : Array Value} {below : List Frame} {meth : Method} {c : Code} {D : va_G} {ca : Nat → ClassId} {b : Nat} {T : Tx} {V : Vx} (G : GX p s m meth c cX1_hasAt 4 (Option.some Jvm.ClassFile.FieldType.boolean) RX1 "hasAt" D ca b) (hR : 0 ≤ R.frames ∧ 0 ≤ R.locals) {this : Nat} {p1 : Int32} {p2 : Nat} {rr : Int32}  (k_this : kd T this = 1) (k_p2 : kd T p2 = 1) (h : Le_hasAt T V this p1 p2 = some rr) : WG p l e R s m args below meth c D ca b 4 (QG D ca b (some (.int rr)) T V below args s 0 0) 0 0 T V 0 [(0, rv b (some this)), (1, .int p1), (2, rv b (some p2))] [] := by
  unfold Le_hasAt at h
  refine g_iload_n (pc := 0) G dX1_hasAt_0 1 rfl ?_
  refine g_if_lt (pc := 1) G 17 dX1_hasAt_1 (by decide) (fun c1 => ?_) (fun c1 => ?_)
  · rw [if_pos c1] at h
    refine g_iconst (pc := 17) G (v := 0) dX1_hasAt_17 (by decide) ?_
    cases h
    exact g_zret (pc := 18) G rfl dX1_hasAt_18
  · rw [if_neg c1] at h
    refine g_aload_n (pc := 4) G dX1_hasAt_4 2 rfl ?_
    refine g_getI (pc := 5) G ci_1 (uw_1 G.2.2.2.2.1) (k := 1) (by decide) rfl rfl k_p2 (q89 G.2.2.2.2.1) dX1_hasAt_5 ?_
    refine g_aload_n (pc := 8) G dX1_hasAt_8 0 rfl ?_
    refine g_getI (pc := 9) G ci_1 (uw_1 G.2.2.2.2.1) (k := 1) (by decide) rfl rfl k_this (q89 G.2.2.2.2.1) dX1_hasAt_9 ?_
    refine g_iload_n (pc := 12) G dX1_hasAt_12 1 rfl ?_
    refine g_isub (pc := 13) G dX1_hasAt_13 ?_
    refine g_icmp_le (pc := 14) G 19 dX1_hasAt_14 (by decide) (fun c2 => ?_) (fun c2 => ?_)
    · rw [if_pos c2] at h
      refine g_iconst (pc := 19) G (v := 0) dX1_hasAt_19 (by decide) ?_
      refine g_istore_n (L' := [(3, .int 0), (0, rv b (some this)), (1, .int p1), (2, rv b (some p2))]) (pc := 20) G dX1_hasAt_20 (by decide) rfl ?_
      have LP6 : ∀ (n3 : Nat) (v4 : Int32), Le_hasAt_L21 T V this p1 p2 n3 v4 = some rr → WG p l e R s m args below meth c D ca b 4 (QG D ca b (some (.int rr)) T V below args s 0 0) 0 0 T V 21 [(0, rv b (some this)), (1, .int p1), (2, rv b (some p2)), (3, .int v4)] [] := by
        intro n3
        induction n3 with
        | zero =>
          intro v4 h
          cases h
        | succ n3 ih5 =>
          intro v4 h
          rw [Le_hasAt_L21] at h
          refine g_iload_n (pc := 21) G dX1_hasAt_21 3 rfl ?_
          refine g_aload_n (pc := 22) G dX1_hasAt_22 2 rfl ?_
          refine g_getI (pc := 23) G ci_1 (uw_1 G.2.2.2.2.1) (k := 1) (by decide) rfl rfl k_p2 (q89 G.2.2.2.2.1) dX1_hasAt_23 ?_
          refine g_icmp_ge (pc := 26) G 74 dX1_hasAt_26 (by decide) (fun c7 => ?_) (fun c7 => ?_)
          · rw [if_pos c7] at h
            refine g_iconst (pc := 74) G (v := 1) dX1_hasAt_74 (by decide) ?_
            cases h
            exact g_zret (pc := 75) G rfl dX1_hasAt_75
          · rw [if_neg c7] at h
            refine g_iload_n (pc := 29) G dX1_hasAt_29 3 rfl ?_
            refine g_aload_n (pc := 30) G dX1_hasAt_30 2 rfl ?_
            obtain ⟨r8, e9, h⟩ := bd_e h
            obtain ⟨f10, k11⟩ := ck_e e9
            refine g_getR (pc := 31) G ci_1 (uw_1 G.2.2.2.2.1) (k := 0) (by decide) rfl rfl k_p2 (q88 G.2.2.2.2.1) dX1_hasAt_31 f10 ?_
            refine g_alen (pc := 34) G (t0 := 0) k11 (by decide) rfl dX1_hasAt_34 ?_
            refine g_icmp_ge (pc := 35) G 74 dX1_hasAt_35 (by decide) (fun c12 => ?_) (fun c12 => ?_)
            · rw [if_pos c12] at h
              refine g_iconst (pc := 74) G (v := 1) dX1_hasAt_74 (by decide) ?_
              cases h
              exact g_zret (pc := 75) G rfl dX1_hasAt_75
            · rw [if_neg c12] at h
              refine g_iload_n (pc := 38) G dX1_hasAt_38 1 rfl ?_
              refine g_iload_n (pc := 39) G dX1_hasAt_39 3 rfl ?_
              refine g_iadd (pc := 40) G dX1_hasAt_40 ?_
              refine g_aload_n (pc := 41) G dX1_hasAt_41 0 rfl ?_
              obtain ⟨r13, e14, h⟩ := bd_e h
              obtain ⟨f15, k16⟩ := ck_e e14
              refine g_getR (pc := 42) G ci_1 (uw_1 G.2.2.2.2.1) (k := 0) (by decide) rfl rfl k_this (q88 G.2.2.2.2.1) dX1_hasAt_42 f15 ?_
              refine g_alen (pc := 45) G (t0 := 0) k16 (by decide) rfl dX1_hasAt_45 ?_
              refine g_icmp_ge (pc := 46) G 74 dX1_hasAt_46 (by decide) (fun c17 => ?_) (fun c17 => ?_)
              · rw [if_pos c17] at h
                refine g_iconst (pc := 74) G (v := 1) dX1_hasAt_74 (by decide) ?_
                cases h
                exact g_zret (pc := 75) G rfl dX1_hasAt_75
              · rw [if_neg c17] at h
                refine g_aload_n (pc := 49) G dX1_hasAt_49 0 rfl ?_
                obtain ⟨r18, e19, h⟩ := bd_e h
                obtain ⟨f20, k21⟩ := ck_e e19
                refine g_getR (pc := 50) G ci_1 (uw_1 G.2.2.2.2.1) (k := 0) (by decide) rfl rfl k_this (q88 G.2.2.2.2.1) dX1_hasAt_50 f20 ?_
                refine g_iload_n (pc := 53) G dX1_hasAt_53 1 rfl ?_
                refine g_iload_n (pc := 54) G dX1_hasAt_54 3 rfl ?_
                refine g_iadd (pc := 55) G dX1_hasAt_55 ?_
                obtain ⟨b22, h⟩ := gd_e h
                refine g_cald (pc := 56) G k21 b22 dX1_hasAt_56 ?_
                refine g_aload_n (pc := 57) G dX1_hasAt_57 2 rfl ?_
                obtain ⟨r23, e24, h⟩ := bd_e h
                obtain ⟨f25, k26⟩ := ck_e e24
                refine g_getR (pc := 58) G ci_1 (uw_1 G.2.2.2.2.1) (k := 0) (by decide) rfl rfl k_p2 (q88 G.2.2.2.2.1) dX1_hasAt_58 f25 ?_
                refine g_iload_n (pc := 61) G dX1_hasAt_61 3 rfl ?_
                obtain ⟨b27, h⟩ := gd_e h
                refine g_cald (pc := 62) G k26 b27 dX1_hasAt_62 ?_
                refine g_icmp_eq (pc := 63) G 68 dX1_hasAt_63 (by decide) (fun c28 => ?_) (fun c28 => ?_)
                · rw [if_pos c28] at h
                  refine g_iinc (v := v4 + 1) (L' := [(3, .int (v4 + 1)), (0, rv b (some this)), (1, .int p1), (2, rv b (some p2))]) (pc := 68) G dX1_hasAt_68 3 rfl rfl (by decide) rfl ?_
                  refine g_goto (pc := 71) G 21 dX1_hasAt_71 (by decide) ?_
                  exact g_sub [1, 2, 3, 0] rfl (ih5 _ h)
                · rw [if_neg c28] at h
                  refine g_iconst (pc := 66) G (v := 0) dX1_hasAt_66 (by decide) ?_
                  cases h
                  exact g_zret (pc := 67) G rfl dX1_hasAt_67
      exact g_sub [1, 2, 3, 0] rfl (LP6 _ _ h)
    · rw [if_neg c2] at h
      refine g_iconst (pc := 17) G (v := 0) dX1_hasAt_17 (by decide) ?_
      cases h
      exact g_zret (pc := 18) G rfl dX1_hasAt_18
theorem c_Le_hasAt (l : Launch) (D : va_G) (ca : Nat → ClassId) (b : Nat) {T : Tx} {V : Vx} {this : Nat} {p1 : Int32} {p2 : Nat} {rr : Int32}  (k_this : kd T this = 1) (k_p2 : kd T p2 = 1) (h : Le_hasAt T V this p1 p2 = some rr) : MG l yX1_hasAt cX1_hasAt 4 (Option.some Jvm.ClassFile.FieldType.boolean) 0 0 0 0 D ca b [rv b (some this), .int p1, rv b (some p2)] T V (some (.int rr)) T V :=
  MG.ofWG (L := [(0, rv b (some this)), (1, .int p1), (2, rv b (some p2))]) (by decide +kernel) rfl (Nat.le_of_ble_eq_true rfl) (fun _ _ _ _ _ _ _ G _ => w_Le_hasAt G ⟨Nat.le_refl _, Nat.le_refl _⟩ k_this k_p2 h)
set_option maxHeartbeats 4000000 in
set_option maxRecDepth 100000 in
theorem w_Lx_clear {p : Program} {l : Launch} {e : Env} {R : Room} {s : State} {m : MethodId} {args : Array Value} {below : List Frame} {meth : Method} {c : Code} {D : va_G} {ca : Nat → ClassId} {b : Nat} {T : Tx} {V : Vx} (G : GX p s m meth c cX2_clear 1 (Option.none : Option Jvm.ClassFile.FieldType) RX2 "clear" D ca b) (hR : 0 ≤ R.frames ∧ 0 ≤ R.locals) {this : Nat}  {Vf : Vx} (k_this : kd T this = 2) (h : Lx_clear T V this = some Vf) : WG p l e R s m args below meth c D ca b 1 (QG D ca b none T Vf below args s 0 0) 0 0 T V 0 [(0, rv b (some this))] [] := by
  unfold Lx_clear at h
  refine g_aload_n (pc := 0) G dX2_clear_0 0 rfl ?_
  refine g_iconst (pc := 1) G (v := 0) dX2_clear_1 (by decide) ?_
  obtain ⟨V1, e2, h⟩ := lt_e h
  refine g_putI (pc := 2) G ci_2 (uw_2 G.2.2.2.2.1) (k := 2) (by decide) rfl rfl k_this rfl ⟨rfl, rfl⟩ (q302 G.2.2.2.2.1) e2 dX2_clear_2 ?_
  refine g_aload_n (pc := 5) G dX2_clear_5 0 rfl ?_
  refine g_iconst (pc := 6) G (v := 0) dX2_clear_6 (by decide) ?_
  obtain ⟨V3, e4, h⟩ := lt_e h
  refine g_putI (pc := 7) G ci_2 (uw_2 G.2.2.2.2.1) (k := 3) (by decide) rfl rfl k_this rfl ⟨rfl, rfl⟩ (q306 G.2.2.2.2.1) e4 dX2_clear_7 ?_
  refine g_aload_n (pc := 10) G dX2_clear_10 0 rfl ?_
  refine g_iconst (pc := 11) G (v := 0) dX2_clear_11 (by decide) ?_
  obtain ⟨V5, e6, h⟩ := lt_e h
  refine g_putI (pc := 12) G ci_2 (uw_2 G.2.2.2.2.1) (k := 4) (by decide) rfl rfl k_this rfl (zo_n rfl) (q310 G.2.2.2.2.1) e6 dX2_clear_12 ?_
  cases h
  exact g_vret (pc := 15) G dX2_clear_15
theorem c_Lx_clear (l : Launch) (D : va_G) (ca : Nat → ClassId) (b : Nat) {T : Tx} {V : Vx} {this : Nat}  {Vf : Vx} (k_this : kd T this = 2) (h : Lx_clear T V this = some Vf) : MG l yX2_clear cX2_clear 1 (Option.none : Option Jvm.ClassFile.FieldType) 0 0 0 0 D ca b [rv b (some this)] T V none T Vf :=
  MG.ofWG (L := [(0, rv b (some this))]) (by decide +kernel) rfl (Nat.le_of_ble_eq_true rfl) (fun _ _ _ _ _ _ _ G _ => w_Lx_clear G ⟨Nat.le_refl _, Nat.le_refl _⟩ k_this h)
set_option maxHeartbeats 4000000 in
set_option maxRecDepth 100000 in
theorem w_Lx_signAt {p : Program} {l : Launch} {e : Env} {R : Room} {s : State} {m : MethodId} {args : Array Value} {below : List Frame} {meth : Method} {c : Code} {D : va_G} {ca : Nat → ClassId} {b : Nat} {T : Tx} {V : Vx} (G : GX p s m meth c cX2_signAt 2 (Option.some (Jvm.ClassFile.FieldType.object "RebusSigns$Sign")) RX2 "signAt" D ca b) (hR : 0 ≤ R.frames ∧ 0 ≤ R.locals) {this : Nat} {p1 : Int32} {rr : (Option Nat)}  (k_this : kd T this = 2) (h : Lx_signAt T V this p1 = some rr) : WG p l e R s m args below meth c D ca b 2 (QG D ca b (some (rv b rr)) T V below args s 0 0) 0 0 T V 0 [(0, rv b (some this)), (1, .int p1)] [] := by
  unfold Lx_signAt at h
  refine g_iload_n (pc := 0) G dX2_signAt_0 1 rfl ?_
  refine g_if_lt (pc := 1) G 27 dX2_signAt_1 (by decide) (fun c1 => ?_) (fun c1 => ?_)
  · rw [if_pos c1] at h
    refine g_null (pc := 27) G dX2_signAt_27 ?_
    cases h
    exact g_aret (pc := 28) G dX2_signAt_28
  · rw [if_neg c1] at h
    refine g_iload_n (pc := 4) G dX2_signAt_4 1 rfl ?_
    refine g_aload_n (pc := 5) G dX2_signAt_5 0 rfl ?_
    refine g_getI (pc := 6) G ci_2 (uw_2 G.2.2.2.2.1) (k := 2) (by decide) rfl rfl k_this (q302 G.2.2.2.2.1) dX2_signAt_6 ?_
    refine g_icmp_ge (pc := 9) G 27 dX2_signAt_9 (by decide) (fun c2 => ?_) (fun c2 => ?_)
    · rw [if_pos c2] at h
      refine g_null (pc := 27) G dX2_signAt_27 ?_
      cases h
      exact g_aret (pc := 28) G dX2_signAt_28
    · rw [if_neg c2] at h
      refine g_iload_n (pc := 12) G dX2_signAt_12 1 rfl ?_
      refine g_bipush (pc := 13) G (v := 12) dX2_signAt_13 (by decide) ?_
      refine g_icmp_ge (pc := 15) G 27 dX2_signAt_15 (by decide) (fun c3 => ?_) (fun c3 => ?_)
      · rw [if_pos c3] at h
        refine g_null (pc := 27) G dX2_signAt_27 ?_
        cases h
        exact g_aret (pc := 28) G dX2_signAt_28
      · rw [if_neg c3] at h
        refine g_aload_n (pc := 18) G dX2_signAt_18 0 rfl ?_
        obtain ⟨r4, e5, h⟩ := bd_e h
        obtain ⟨f6, k7⟩ := ck_e e5
        refine g_getR (pc := 19) G ci_2 (uw_2 G.2.2.2.2.1) (k := 0) (by decide) rfl rfl k_this (q300 G.2.2.2.2.1) dX2_signAt_19 f6 ?_
        refine g_iload_n (pc := 22) G dX2_signAt_22 1 rfl ?_
        obtain ⟨b8, h⟩ := gd_e h
        obtain ⟨r9, e10, h⟩ := bd_e h
        obtain ⟨f11, k12⟩ := ck_e e10
        refine g_aald (pc := 23) G (t0 := 4) k7 (by decide) rfl b8 dX2_signAt_23 f11 ?_
        refine g_goto (pc := 24) G 28 dX2_signAt_24 (by decide) ?_
        cases h
        exact g_aret (pc := 28) G dX2_signAt_28
theorem c_Lx_signAt (l : Launch) (D : va_G) (ca : Nat → ClassId) (b : Nat) {T : Tx} {V : Vx} {this : Nat} {p1 : Int32} {rr : (Option Nat)}  (k_this : kd T this = 2) (h : Lx_signAt T V this p1 = some rr) : MG l yX2_signAt cX2_signAt 2 (Option.some (Jvm.ClassFile.FieldType.object "RebusSigns$Sign")) 0 0 0 0 D ca b [rv b (some this), .int p1] T V (some (rv b rr)) T V :=
  MG.ofWG (L := [(0, rv b (some this)), (1, .int p1)]) (by decide +kernel) rfl (Nat.le_of_ble_eq_true rfl) (fun _ _ _ _ _ _ _ G _ => w_Lx_signAt G ⟨Nat.le_refl _, Nat.le_refl _⟩ k_this h)
set_option maxHeartbeats 4000000 in
set_option maxRecDepth 100000 in
theorem w_Lx_wordAt {p : Program} {l : Launch} {e : Env} {R : Room} {s : State} {m : MethodId} {args : Array Value} {below : List Frame} {meth : Method} {c : Code} {D : va_G} {ca : Nat → ClassId} {b : Nat} {T : Tx} {V : Vx} (G : GX p s m meth c cX2_wordAt 2 (Option.some (Jvm.ClassFile.FieldType.object "RebusSigns$Word")) RX2 "wordAt" D ca b) (hR : 0 ≤ R.frames ∧ 0 ≤ R.locals) {this : Nat} {p1 : Int32} {rr : (Option Nat)}  (k_this : kd T this = 2) (h : Lx_wordAt T V this p1 = some rr) : WG p l e R s m args below meth c D ca b 2 (QG D ca b (some (rv b rr)) T V below args s 0 0) 0 0 T V 0 [(0, rv b (some this)), (1, .int p1)] [] := by
  unfold Lx_wordAt at h
  refine g_iload_n (pc := 0) G dX2_wordAt_0 1 rfl ?_
  refine g_if_lt (pc := 1) G 27 dX2_wordAt_1 (by decide) (fun c1 => ?_) (fun c1 => ?_)
  · rw [if_pos c1] at h
    refine g_null (pc := 27) G dX2_wordAt_27 ?_
    cases h
    exact g_aret (pc := 28) G dX2_wordAt_28
  · rw [if_neg c1] at h
    refine g_iload_n (pc := 4) G dX2_wordAt_4 1 rfl ?_
    refine g_aload_n (pc := 5) G dX2_wordAt_5 0 rfl ?_
    refine g_getI (pc := 6) G ci_2 (uw_2 G.2.2.2.2.1) (k := 3) (by decide) rfl rfl k_this (q306 G.2.2.2.2.1) dX2_wordAt_6 ?_
    refine g_icmp_ge (pc := 9) G 27 dX2_wordAt_9 (by decide) (fun c2 => ?_) (fun c2 => ?_)
    · rw [if_pos c2] at h
      refine g_null (pc := 27) G dX2_wordAt_27 ?_
      cases h
      exact g_aret (pc := 28) G dX2_wordAt_28
    · rw [if_neg c2] at h
      refine g_iload_n (pc := 12) G dX2_wordAt_12 1 rfl ?_
      refine g_bipush (pc := 13) G (v := 8) dX2_wordAt_13 (by decide) ?_
      refine g_icmp_ge (pc := 15) G 27 dX2_wordAt_15 (by decide) (fun c3 => ?_) (fun c3 => ?_)
      · rw [if_pos c3] at h
        refine g_null (pc := 27) G dX2_wordAt_27 ?_
        cases h
        exact g_aret (pc := 28) G dX2_wordAt_28
      · rw [if_neg c3] at h
        refine g_aload_n (pc := 18) G dX2_wordAt_18 0 rfl ?_
        obtain ⟨r4, e5, h⟩ := bd_e h
        obtain ⟨f6, k7⟩ := ck_e e5
        refine g_getR (pc := 19) G ci_2 (uw_2 G.2.2.2.2.1) (k := 1) (by decide) rfl rfl k_this (q301 G.2.2.2.2.1) dX2_wordAt_19 f6 ?_
        refine g_iload_n (pc := 22) G dX2_wordAt_22 1 rfl ?_
        obtain ⟨b8, h⟩ := gd_e h
        obtain ⟨r9, e10, h⟩ := bd_e h
        obtain ⟨f11, k12⟩ := ck_e e10
        refine g_aald (pc := 23) G (t0 := 5) k7 (by decide) rfl b8 dX2_wordAt_23 f11 ?_
        refine g_goto (pc := 24) G 28 dX2_wordAt_24 (by decide) ?_
        cases h
        exact g_aret (pc := 28) G dX2_wordAt_28
theorem c_Lx_wordAt (l : Launch) (D : va_G) (ca : Nat → ClassId) (b : Nat) {T : Tx} {V : Vx} {this : Nat} {p1 : Int32} {rr : (Option Nat)}  (k_this : kd T this = 2) (h : Lx_wordAt T V this p1 = some rr) : MG l yX2_wordAt cX2_wordAt 2 (Option.some (Jvm.ClassFile.FieldType.object "RebusSigns$Word")) 0 0 0 0 D ca b [rv b (some this), .int p1] T V (some (rv b rr)) T V :=
  MG.ofWG (L := [(0, rv b (some this)), (1, .int p1)]) (by decide +kernel) rfl (Nat.le_of_ble_eq_true rfl) (fun _ _ _ _ _ _ _ G _ => w_Lx_wordAt G ⟨Nat.le_refl _, Nat.le_refl _⟩ k_this h)
set_option maxHeartbeats 4000000 in
set_option maxRecDepth 100000 in
theorem w_Lx_nextSign {p : Program} {l : Launch} {e : Env} {R : Room} {s : State} {m : MethodId} {args : Array Value} {below : List Frame} {meth : Method} {c : Code} {D : va_G} {ca : Nat → ClassId} {b : Nat} {T : Tx} {V : Vx} (G : GX p s m meth c cX2_nextSign 1 (Option.some (Jvm.ClassFile.FieldType.object "RebusSigns$Sign")) RX2 "nextSign" D ca b) (hR : 0 ≤ R.frames ∧ 0 ≤ R.locals) {this : Nat} {rr : (Option Nat)}  (k_this : kd T this = 2) (h : Lx_nextSign T V this = some rr) : WG p l e R s m args below meth c D ca b 1 (QG D ca b (some (rv b rr)) T V below args s 0 0) 0 0 T V 0 [(0, rv b (some this))] [] := by
  unfold Lx_nextSign at h
  refine g_aload_n (pc := 0) G dX2_nextSign_0 0 rfl ?_
  refine g_getI (pc := 1) G ci_2 (uw_2 G.2.2.2.2.1) (k := 2) (by decide) rfl rfl k_this (q302 G.2.2.2.2.1) dX2_nextSign_1 ?_
  refine g_if_lt (pc := 4) G 28 dX2_nextSign_4 (by decide) (fun c1 => ?_) (fun c1 => ?_)
  · rw [if_pos c1] at h
    refine g_null (pc := 28) G dX2_nextSign_28 ?_
    cases h
    exact g_aret (pc := 29) G dX2_nextSign_29
  · rw [if_neg c1] at h
    refine g_aload_n (pc := 7) G dX2_nextSign_7 0 rfl ?_
    refine g_getI (pc := 8) G ci_2 (uw_2 G.2.2.2.2.1) (k := 2) (by decide) rfl rfl k_this (q302 G.2.2.2.2.1) dX2_nextSign_8 ?_
    refine g_bipush (pc := 11) G (v := 12) dX2_nextSign_11 (by decide) ?_
    refine g_icmp_ge (pc := 13) G 28 dX2_nextSign_13 (by decide) (fun c2 => ?_) (fun c2 => ?_)
    · rw [if_pos c2] at h
      refine g_null (pc := 28) G dX2_nextSign_28 ?_
      cases h
      exact g_aret (pc := 29) G dX2_nextSign_29
    · rw [if_neg c2] at h
      refine g_aload_n (pc := 16) G dX2_nextSign_16 0 rfl ?_
      obtain ⟨r3, e4, h⟩ := bd_e h
      obtain ⟨f5, k6⟩ := ck_e e4
      refine g_getR (pc := 17) G ci_2 (uw_2 G.2.2.2.2.1) (k := 0) (by decide) rfl rfl k_this (q300 G.2.2.2.2.1) dX2_nextSign_17 f5 ?_
      refine g_aload_n (pc := 20) G dX2_nextSign_20 0 rfl ?_
      refine g_getI (pc := 21) G ci_2 (uw_2 G.2.2.2.2.1) (k := 2) (by decide) rfl rfl k_this (q302 G.2.2.2.2.1) dX2_nextSign_21 ?_
      obtain ⟨b7, h⟩ := gd_e h
      obtain ⟨r8, e9, h⟩ := bd_e h
      obtain ⟨f10, k11⟩ := ck_e e9
      refine g_aald (pc := 24) G (t0 := 4) k6 (by decide) rfl b7 dX2_nextSign_24 f10 ?_
      refine g_goto (pc := 25) G 29 dX2_nextSign_25 (by decide) ?_
      cases h
      exact g_aret (pc := 29) G dX2_nextSign_29
theorem c_Lx_nextSign (l : Launch) (D : va_G) (ca : Nat → ClassId) (b : Nat) {T : Tx} {V : Vx} {this : Nat} {rr : (Option Nat)}  (k_this : kd T this = 2) (h : Lx_nextSign T V this = some rr) : MG l yX2_nextSign cX2_nextSign 1 (Option.some (Jvm.ClassFile.FieldType.object "RebusSigns$Sign")) 0 0 0 0 D ca b [rv b (some this)] T V (some (rv b rr)) T V :=
  MG.ofWG (L := [(0, rv b (some this))]) (by decide +kernel) rfl (Nat.le_of_ble_eq_true rfl) (fun _ _ _ _ _ _ _ G _ => w_Lx_nextSign G ⟨Nat.le_refl _, Nat.le_refl _⟩ k_this h)
set_option maxHeartbeats 4000000 in
set_option maxRecDepth 100000 in
theorem w_Lx_nextWord {p : Program} {l : Launch} {e : Env} {R : Room} {s : State} {m : MethodId} {args : Array Value} {below : List Frame} {meth : Method} {c : Code} {D : va_G} {ca : Nat → ClassId} {b : Nat} {T : Tx} {V : Vx} (G : GX p s m meth c cX2_nextWord 1 (Option.some (Jvm.ClassFile.FieldType.object "RebusSigns$Word")) RX2 "nextWord" D ca b) (hR : 0 ≤ R.frames ∧ 0 ≤ R.locals) {this : Nat} {rr : (Option Nat)}  (k_this : kd T this = 2) (h : Lx_nextWord T V this = some rr) : WG p l e R s m args below meth c D ca b 1 (QG D ca b (some (rv b rr)) T V below args s 0 0) 0 0 T V 0 [(0, rv b (some this))] [] := by
  unfold Lx_nextWord at h
  refine g_aload_n (pc := 0) G dX2_nextWord_0 0 rfl ?_
  refine g_getI (pc := 1) G ci_2 (uw_2 G.2.2.2.2.1) (k := 3) (by decide) rfl rfl k_this (q306 G.2.2.2.2.1) dX2_nextWord_1 ?_
  refine g_if_lt (pc := 4) G 28 dX2_nextWord_4 (by decide) (fun c1 => ?_) (fun c1 => ?_)
  · rw [if_pos c1] at h
    refine g_null (pc := 28) G dX2_nextWord_28 ?_
    cases h
    exact g_aret (pc := 29) G dX2_nextWord_29
  · rw [if_neg c1] at h
    refine g_aload_n (pc := 7) G dX2_nextWord_7 0 rfl ?_
    refine g_getI (pc := 8) G ci_2 (uw_2 G.2.2.2.2.1) (k := 3) (by decide) rfl rfl k_this (q306 G.2.2.2.2.1) dX2_nextWord_8 ?_
    refine g_bipush (pc := 11) G (v := 8) dX2_nextWord_11 (by decide) ?_
    refine g_icmp_ge (pc := 13) G 28 dX2_nextWord_13 (by decide) (fun c2 => ?_) (fun c2 => ?_)
    · rw [if_pos c2] at h
      refine g_null (pc := 28) G dX2_nextWord_28 ?_
      cases h
      exact g_aret (pc := 29) G dX2_nextWord_29
    · rw [if_neg c2] at h
      refine g_aload_n (pc := 16) G dX2_nextWord_16 0 rfl ?_
      obtain ⟨r3, e4, h⟩ := bd_e h
      obtain ⟨f5, k6⟩ := ck_e e4
      refine g_getR (pc := 17) G ci_2 (uw_2 G.2.2.2.2.1) (k := 1) (by decide) rfl rfl k_this (q301 G.2.2.2.2.1) dX2_nextWord_17 f5 ?_
      refine g_aload_n (pc := 20) G dX2_nextWord_20 0 rfl ?_
      refine g_getI (pc := 21) G ci_2 (uw_2 G.2.2.2.2.1) (k := 3) (by decide) rfl rfl k_this (q306 G.2.2.2.2.1) dX2_nextWord_21 ?_
      obtain ⟨b7, h⟩ := gd_e h
      obtain ⟨r8, e9, h⟩ := bd_e h
      obtain ⟨f10, k11⟩ := ck_e e9
      refine g_aald (pc := 24) G (t0 := 5) k6 (by decide) rfl b7 dX2_nextWord_24 f10 ?_
      refine g_goto (pc := 25) G 29 dX2_nextWord_25 (by decide) ?_
      cases h
      exact g_aret (pc := 29) G dX2_nextWord_29
theorem c_Lx_nextWord (l : Launch) (D : va_G) (ca : Nat → ClassId) (b : Nat) {T : Tx} {V : Vx} {this : Nat} {rr : (Option Nat)}  (k_this : kd T this = 2) (h : Lx_nextWord T V this = some rr) : MG l yX2_nextWord cX2_nextWord 1 (Option.some (Jvm.ClassFile.FieldType.object "RebusSigns$Word")) 0 0 0 0 D ca b [rv b (some this)] T V (some (rv b rr)) T V :=
  MG.ofWG (L := [(0, rv b (some this))]) (by decide +kernel) rfl (Nat.le_of_ble_eq_true rfl) (fun _ _ _ _ _ _ _ G _ => w_Lx_nextWord G ⟨Nat.le_refl _, Nat.le_refl _⟩ k_this h)
set_option maxHeartbeats 4000000 in
set_option maxRecDepth 100000 in
theorem w_Lx_wordOf {p : Program} {l : Launch} {e : Env} {R : Room} {s : State} {m : MethodId} {args : Array Value} {below : List Frame} {meth : Method} {c : Code} {D : va_G} {ca : Nat → ClassId} {b : Nat} {T : Tx} {V : Vx} (G : GX p s m meth c cX2_wordOf 5 (Option.some Jvm.ClassFile.FieldType.int) RX2 "wordOf" D ca b) (hR : 1 ≤ R.frames ∧ 23 ≤ R.locals) {this : Nat} {p1 : Int32} {p2 : Nat} {rr : Int32}  (k_this : kd T this = 2) (k_p2 : kd T p2 = 1) (h : Lx_wordOf T V this p1 p2 = some rr) : WG p l e R s m args below meth c D ca b 5 (QG D ca b (some (.int rr)) T V below args s 0 0) 0 0 T V 0 [(0, rv b (some this)), (1, .int p1), (2, rv b (some p2))] [] := by
  unfold Lx_wordOf at h
  refine g_iconst (pc := 0) G (v := 0) dX2_wordOf_0 (by decide) ?_
  refine g_istore_n (L' := [(3, .int 0), (0, rv b (some this)), (1, .int p1), (2, rv b (some p2))]) (pc := 1) G dX2_wordOf_1 (by decide) rfl ?_
  have LP4 : ∀ (n1 : Nat) (v2 : Int32), Lx_wordOf_L2 T V this p1 p2 n1 v2 = some rr → WG p l e R s m args below meth c D ca b 5 (QG D ca b (some (.int rr)) T V below args s 0 0) 0 0 T V 2 [(0, rv b (some this)), (1, .int p1), (2, rv b (some p2)), (3, .int v2)] [] := by
    intro n1
    induction n1 with
    | zero =>
      intro v2 h
      cases h
    | succ n1 ih3 =>
      intro v2 h
      rw [Lx_wordOf_L2.eq_def] at h
      dsimp only at h
      refine g_iload_n (pc := 2) G dX2_wordOf_2 3 rfl ?_
      refine g_aload_n (pc := 3) G dX2_wordOf_3 0 rfl ?_
      refine g_getI (pc := 4) G ci_2 (uw_2 G.2.2.2.2.1) (k := 3) (by decide) rfl rfl k_this (q306 G.2.2.2.2.1) dX2_wordOf_4 ?_
      refine g_icmp_ge (pc := 7) G 70 dX2_wordOf_7 (by decide) (fun c5 => ?_) (fun c5 => ?_)
      · rw [if_pos c5] at h
        refine g_bipush (pc := 70) G (v := (-4)) dX2_wordOf_70 (by decide) ?_
        cases h
        exact g_iret (pc := 72) G dX2_wordOf_72
      · rw [if_neg c5] at h
        refine g_aload_n (pc := 10) G dX2_wordOf_10 0 rfl ?_
        refine g_iload_n (pc := 11) G dX2_wordOf_11 3 rfl ?_
        obtain ⟨r7, e6, h⟩ := bd_e h
        refine g_callV (pc := 12) (As := [.int v2]) (rest := []) (st2 := [rv b r7]) G (c_Lx_wordAt l D ca b k_this e6) (mb_Lx_wordAt G.2.2.2.2.1) (q388 G.2.2.2.2.1) (q389 G.2.2.2.2.1) (q387 G.2.2.2.2.1) ci_2 k_this rfl rfl (Nat.le_of_ble_eq_true rfl) ⟨Nat.le_trans (Nat.le_of_ble_eq_true rfl) hR.1, Nat.le_trans (Nat.le_of_ble_eq_true rfl) hR.2⟩ ⟨Nat.zero_le _, Nat.zero_le _⟩ rfl rfl dX2_wordOf_12 ?_
        refine g_astore (L' := [(4, rv b r7), (0, rv b (some this)), (1, .int p1), (2, rv b (some p2)), (3, .int v2)]) (pc := 15) G dX2_wordOf_15 (by decide) rfl ?_
        refine g_aload (pc := 17) G dX2_wordOf_17 0 rfl ?_
        cases r7 with
        | none =>
          dsimp only at h
          refine g_ifnullN (pc := 19) G 64 dX2_wordOf_19 (by decide) ?_
          refine g_iinc (v := v2 + 1) (L' := [(3, .int (v2 + 1)), (4, rv b none), (0, rv b (some this)), (1, .int p1), (2, rv b (some p2))]) (pc := 64) G dX2_wordOf_64 4 rfl rfl (by decide) rfl ?_
          refine g_goto (pc := 67) G 2 dX2_wordOf_67 (by decide) ?_
          exact g_sub [2, 3, 4, 0] rfl (ih3 _ h)
        | some r8 =>
          dsimp only at h
          refine g_ifnullS (pc := 19) G dX2_wordOf_19 ?_
          refine g_aload (pc := 22) G dX2_wordOf_22 0 rfl ?_
          obtain ⟨r11, e10, h⟩ := bd_e h
          have k9 : kd T r8 = 7 := by
            obtain ⟨ee, k0⟩ := ck_e e10
            cases ee
            exact k0
          refine g_getIN (pc := 24) G ci_7 (uw_7 G.2.2.2.2.1) (k := 1) (by decide) rfl rfl k9 (q292 G.2.2.2.2.1) dX2_wordOf_24 ?_
          refine g_iload_n (pc := 27) G dX2_wordOf_27 2 rfl ?_
          refine g_icmp_ne (pc := 28) G 64 dX2_wordOf_28 (by decide) (fun c12 => ?_) (fun c12 => ?_)
          · rw [if_neg c12] at h
            refine g_iinc (v := v2 + 1) (L' := [(3, .int (v2 + 1)), (4, rv b (some r8)), (0, rv b (some this)), (1, .int p1), (2, rv b (some p2))]) (pc := 64) G dX2_wordOf_64 4 rfl rfl (by decide) rfl ?_
            refine g_goto (pc := 67) G 2 dX2_wordOf_67 (by decide) ?_
            exact g_sub [2, 3, 4, 0] rfl (ih3 _ h)
          · rw [if_pos c12] at h
            refine g_aload (pc := 31) G dX2_wordOf_31 0 rfl ?_
            obtain ⟨r13, e14, h⟩ := bd_e h
            obtain ⟨f15, k16⟩ := ck_e e14
            refine g_getRN (pc := 33) G ci_7 (uw_7 G.2.2.2.2.1) (k := 0) (by decide) rfl rfl k9 (q288 G.2.2.2.2.1) dX2_wordOf_33 f15 ?_
            obtain ⟨r18, e17, h⟩ := bd_e h
            refine g_callV (pc := 36) (As := []) (rest := []) (st2 := [.int r18]) G (c_Le_size l D ca b k16 e17) (mb_Le_size G.2.2.2.2.1) (q332 G.2.2.2.2.1) (q333 G.2.2.2.2.1) (q391 G.2.2.2.2.1) ci_1 k16 rfl rfl (Nat.le_of_ble_eq_true rfl) ⟨Nat.le_trans (Nat.le_of_ble_eq_true rfl) hR.1, Nat.le_trans (Nat.le_of_ble_eq_true rfl) hR.2⟩ ⟨Nat.zero_le _, Nat.zero_le _⟩ rfl rfl dX2_wordOf_36 ?_
            refine g_aload_n (pc := 39) G dX2_wordOf_39 3 rfl ?_
            obtain ⟨r20, e19, h⟩ := bd_e h
            refine g_callV (pc := 40) (As := []) (rest := [.int r18]) (st2 := [.int r20, .int r18]) G (c_Le_size l D ca b k_p2 e19) (mb_Le_size G.2.2.2.2.1) (q332 G.2.2.2.2.1) (q333 G.2.2.2.2.1) (q391 G.2.2.2.2.1) ci_1 k_p2 rfl rfl (Nat.le_of_ble_eq_true rfl) ⟨Nat.le_trans (Nat.le_of_ble_eq_true rfl) hR.1, Nat.le_trans (Nat.le_of_ble_eq_true rfl) hR.2⟩ ⟨Nat.zero_le _, Nat.zero_le _⟩ rfl rfl dX2_wordOf_40 ?_
            refine g_icmp_eq (pc := 43) G 49 dX2_wordOf_43 (by decide) (fun c21 => ?_) (fun c21 => ?_)
            · rw [if_pos c21] at h
              refine g_aload (pc := 49) G dX2_wordOf_49 0 rfl ?_
              obtain ⟨r22, e23, h⟩ := bd_e h
              obtain ⟨f24, k25⟩ := ck_e e23
              refine g_getRN (pc := 51) G ci_7 (uw_7 G.2.2.2.2.1) (k := 0) (by decide) rfl rfl k9 (q288 G.2.2.2.2.1) dX2_wordOf_51 f24 ?_
              refine g_iconst (pc := 54) G (v := 0) dX2_wordOf_54 (by decide) ?_
              refine g_aload_n (pc := 55) G dX2_wordOf_55 3 rfl ?_
              obtain ⟨r27, e26, h⟩ := bd_e h
              refine g_callV (pc := 56) (As := [.int 0, rv b (some p2)]) (rest := []) (st2 := [.int r27]) G (c_Le_hasAt l D ca b k25 k_p2 e26) (mb_Le_hasAt G.2.2.2.2.1) (q393 G.2.2.2.2.1) (q394 G.2.2.2.2.1) (q392 G.2.2.2.2.1) ci_1 k25 rfl rfl (Nat.le_of_ble_eq_true rfl) ⟨Nat.le_trans (Nat.le_of_ble_eq_true rfl) hR.1, Nat.le_trans (Nat.le_of_ble_eq_true rfl) hR.2⟩ ⟨Nat.zero_le _, Nat.zero_le _⟩ rfl rfl dX2_wordOf_56 ?_
              refine g_if_eq (pc := 59) G 64 dX2_wordOf_59 (by decide) (fun c28 => ?_) (fun c28 => ?_)
              · rw [if_pos c28] at h
                refine g_iinc (v := v2 + 1) (L' := [(3, .int (v2 + 1)), (4, rv b (some r8)), (0, rv b (some this)), (1, .int p1), (2, rv b (some p2))]) (pc := 64) G dX2_wordOf_64 4 rfl rfl (by decide) rfl ?_
                refine g_goto (pc := 67) G 2 dX2_wordOf_67 (by decide) ?_
                exact g_sub [2, 3, 4, 0] rfl (ih3 _ h)
              · rw [if_neg c28] at h
                refine g_iload_n (pc := 62) G dX2_wordOf_62 4 rfl ?_
                cases h
                exact g_iret (pc := 63) G dX2_wordOf_63
            · rw [if_neg c21] at h
              refine g_goto (pc := 46) G 64 dX2_wordOf_46 (by decide) ?_
              refine g_iinc (v := v2 + 1) (L' := [(3, .int (v2 + 1)), (4, rv b (some r8)), (0, rv b (some this)), (1, .int p1), (2, rv b (some p2))]) (pc := 64) G dX2_wordOf_64 4 rfl rfl (by decide) rfl ?_
              refine g_goto (pc := 67) G 2 dX2_wordOf_67 (by decide) ?_
              exact g_sub [2, 3, 4, 0] rfl (ih3 _ h)
  exact g_sub [1, 2, 3, 0] rfl (LP4 _ _ h)
theorem c_Lx_wordOf (l : Launch) (D : va_G) (ca : Nat → ClassId) (b : Nat) {T : Tx} {V : Vx} {this : Nat} {p1 : Int32} {p2 : Nat} {rr : Int32}  (k_this : kd T this = 2) (k_p2 : kd T p2 = 1) (h : Lx_wordOf T V this p1 p2 = some rr) : MG l yX2_wordOf cX2_wordOf 5 (Option.some Jvm.ClassFile.FieldType.int) 1 23 0 0 D ca b [rv b (some this), .int p1, rv b (some p2)] T V (some (.int rr)) T V :=
  MG.ofWG (L := [(0, rv b (some this)), (1, .int p1), (2, rv b (some p2))]) (by decide +kernel) rfl (Nat.le_of_ble_eq_true rfl) (fun _ _ _ _ _ _ _ G _ => w_Lx_wordOf G ⟨Nat.le_refl _, Nat.le_refl _⟩ k_this k_p2 h)
set_option maxHeartbeats 4000000 in
set_option maxRecDepth 100000 in
theorem w_Lx_struckSigns {p : Program} {l : Launch} {e : Env} {R : Room} {s : State} {m : MethodId} {args : Array Value} {below : List Frame} {meth : Method} {c : Code} {D : va_G} {ca : Nat → ClassId} {b : Nat} {T : Tx} {V : Vx} (G : GX p s m meth c cX2_struckSigns 4 (Option.some Jvm.ClassFile.FieldType.int) RX2 "struckSigns" D ca b) (hR : 1 ≤ R.frames ∧ 21 ≤ R.locals) {this : Nat} {rr : Int32}  (k_this : kd T this = 2) (h : Lx_struckSigns T V this = some rr) : WG p l e R s m args below meth c D ca b 4 (QG D ca b (some (.int rr)) T V below args s 0 0) 0 0 T V 0 [(0, rv b (some this))] [] := by
  unfold Lx_struckSigns at h
  refine g_iconst (pc := 0) G (v := 0) dX2_struckSigns_0 (by decide) ?_
  refine g_istore_n (L' := [(1, .int 0), (0, rv b (some this))]) (pc := 1) G dX2_struckSigns_1 (by decide) rfl ?_
  refine g_iconst (pc := 2) G (v := 0) dX2_struckSigns_2 (by decide) ?_
  refine g_istore_n (L' := [(2, .int 0), (1, .int 0), (0, rv b (some this))]) (pc := 3) G dX2_struckSigns_3 (by decide) rfl ?_
  have LP5 : ∀ (n1 : Nat) (v2 : Int32) (v3 : Int32), Lx_struckSigns_L4 T V this n1 v2 v3 = some rr → WG p l e R s m args below meth c D ca b 4 (QG D ca b (some (.int rr)) T V below args s 0 0) 0 0 T V 4 [(0, rv b (some this)), (1, .int v2), (2, .int v3)] [] := by
    intro n1
    induction n1 with
    | zero =>
      intro v2 v3 h
      cases h
    | succ n1 ih4 =>
      intro v2 v3 h
      rw [Lx_struckSigns_L4.eq_def] at h
      dsimp only at h
      refine g_iload_n (pc := 4) G dX2_struckSigns_4 2 rfl ?_
      refine g_aload_n (pc := 5) G dX2_struckSigns_5 0 rfl ?_
      refine g_getI (pc := 6) G ci_2 (uw_2 G.2.2.2.2.1) (k := 2) (by decide) rfl rfl k_this (q302 G.2.2.2.2.1) dX2_struckSigns_6 ?_
      refine g_icmp_ge (pc := 9) G 38 dX2_struckSigns_9 (by decide) (fun c6 => ?_) (fun c6 => ?_)
      · rw [if_pos c6] at h
        refine g_iload_n (pc := 38) G dX2_struckSigns_38 1 rfl ?_
        cases h
        exact g_iret (pc := 39) G dX2_struckSigns_39
      · rw [if_neg c6] at h
        refine g_aload_n (pc := 12) G dX2_struckSigns_12 0 rfl ?_
        refine g_iload_n (pc := 13) G dX2_struckSigns_13 2 rfl ?_
        obtain ⟨r8, e7, h⟩ := bd_e h
        refine g_callV (pc := 14) (As := [.int v3]) (rest := []) (st2 := [rv b r8]) G (c_Lx_signAt l D ca b k_this e7) (mb_Lx_signAt G.2.2.2.2.1) (q463 G.2.2.2.2.1) (q464 G.2.2.2.2.1) (q482 G.2.2.2.2.1) ci_2 k_this rfl rfl (Nat.le_of_ble_eq_true rfl) ⟨Nat.le_trans (Nat.le_of_ble_eq_true rfl) hR.1, Nat.le_trans (Nat.le_of_ble_eq_true rfl) hR.2⟩ ⟨Nat.zero_le _, Nat.zero_le _⟩ rfl rfl dX2_struckSigns_14 ?_
        refine g_astore_n (L' := [(3, rv b r8), (0, rv b (some this)), (1, .int v2), (2, .int v3)]) (pc := 17) G dX2_struckSigns_17 (by decide) rfl ?_
        refine g_aload_n (pc := 18) G dX2_struckSigns_18 0 rfl ?_
        cases r8 with
        | none =>
          dsimp only at h
          refine g_ifnullN (pc := 19) G 32 dX2_struckSigns_19 (by decide) ?_
          refine g_iinc (v := v3 + 1) (L' := [(2, .int (v3 + 1)), (3, rv b none), (0, rv b (some this)), (1, .int v2)]) (pc := 32) G dX2_struckSigns_32 3 rfl rfl (by decide) rfl ?_
          refine g_goto (pc := 35) G 4 dX2_struckSigns_35 (by decide) ?_
          exact g_sub [2, 3, 0] rfl (ih4 _ _ h)
        | some r9 =>
          dsimp only at h
          refine g_ifnullS (pc := 19) G dX2_struckSigns_19 ?_
          refine g_aload_n (pc := 22) G dX2_struckSigns_22 0 rfl ?_
          obtain ⟨r12, e11, h⟩ := bd_e h
          have k10 : kd T r9 = 6 := by
            obtain ⟨ee, k0⟩ := ck_e e11
            cases ee
            exact k0
          refine g_getIN (pc := 23) G ci_6 (uw_6 G.2.2.2.2.1) (k := 3) (by decide) rfl rfl k10 (q267 G.2.2.2.2.1) dX2_struckSigns_23 ?_
          refine g_if_eq (pc := 26) G 32 dX2_struckSigns_26 (by decide) (fun c13 => ?_) (fun c13 => ?_)
          · rw [if_pos c13] at h
            refine g_iinc (v := v3 + 1) (L' := [(2, .int (v3 + 1)), (3, rv b (some r9)), (0, rv b (some this)), (1, .int v2)]) (pc := 32) G dX2_struckSigns_32 3 rfl rfl (by decide) rfl ?_
            refine g_goto (pc := 35) G 4 dX2_struckSigns_35 (by decide) ?_
            exact g_sub [2, 3, 0] rfl (ih4 _ _ h)
          · rw [if_neg c13] at h
            refine g_iinc (v := v2 + 1) (L' := [(1, .int (v2 + 1)), (3, rv b (some r9)), (0, rv b (some this)), (2, .int v3)]) (pc := 29) G dX2_struckSigns_29 2 rfl rfl (by decide) rfl ?_
            refine g_iinc (v := v3 + 1) (L' := [(2, .int (v3 + 1)), (1, .int (v2 + 1)), (3, rv b (some r9)), (0, rv b (some this))]) (pc := 32) G dX2_struckSigns_32 3 rfl rfl (by decide) rfl ?_
            refine g_goto (pc := 35) G 4 dX2_struckSigns_35 (by decide) ?_
            exact g_sub [3, 1, 0] rfl (ih4 _ _ h)
  exact g_sub [2, 1, 0] rfl (LP5 _ _ _ h)
theorem c_Lx_struckSigns (l : Launch) (D : va_G) (ca : Nat → ClassId) (b : Nat) {T : Tx} {V : Vx} {this : Nat} {rr : Int32}  (k_this : kd T this = 2) (h : Lx_struckSigns T V this = some rr) : MG l yX2_struckSigns cX2_struckSigns 4 (Option.some Jvm.ClassFile.FieldType.int) 1 21 0 0 D ca b [rv b (some this)] T V (some (.int rr)) T V :=
  MG.ofWG (L := [(0, rv b (some this))]) (by decide +kernel) rfl (Nat.le_of_ble_eq_true rfl) (fun _ _ _ _ _ _ _ G _ => w_Lx_struckSigns G ⟨Nat.le_refl _, Nat.le_refl _⟩ k_this h)
set_option maxHeartbeats 4000000 in
set_option maxRecDepth 100000 in
theorem w_Lx_marks {p : Program} {l : Launch} {e : Env} {R : Room} {s : State} {m : MethodId} {args : Array Value} {below : List Frame} {meth : Method} {c : Code} {D : va_G} {ca : Nat → ClassId} {b : Nat} {T : Tx} {V : Vx} (G : GX p s m meth c cX2_marks 3 (Option.some Jvm.ClassFile.FieldType.boolean) RX2 "marks" D ca b) (hR : 0 ≤ R.frames ∧ 0 ≤ R.locals) {this : Nat} {p1 : (Option Nat)} {p2 : Int32} {rr : Int32}  (k_this : kd T this = 2) (k_p1 : ∀ a, p1 = some a → kd T a = 6) (h : Lx_marks T V this p1 p2 = some rr) : WG p l e R s m args below meth c D ca b 3 (QG D ca b (some (.int rr)) T V below args s 0 0) 0 0 T V 0 [(0, rv b (some this)), (1, rv b p1), (2, .int p2)] [] := by
  unfold Lx_marks at h
  refine g_aload_n (pc := 0) G dX2_marks_0 1 rfl ?_
  cases p1 with
  | none =>
    dsimp only at h
    refine g_ifnullN (pc := 1) G 31 dX2_marks_1 (by decide) ?_
    refine g_iconst (pc := 31) G (v := 0) dX2_marks_31 (by decide) ?_
    cases h
    exact g_zret (pc := 32) G rfl dX2_marks_32
  | some r1 =>
    dsimp only at h
    have k2 := k_p1 r1 rfl
    refine g_ifnullS (pc := 1) G dX2_marks_1 ?_
    refine g_aload_n (pc := 4) G dX2_marks_4 1 rfl ?_
    refine g_getIN (pc := 5) G ci_6 (uw_6 G.2.2.2.2.1) (k := 1) (by decide) rfl rfl k2 (q259 G.2.2.2.2.1) dX2_marks_5 ?_
    refine g_iconst (pc := 8) G (v := 2) dX2_marks_8 (by decide) ?_
    refine g_icmp_ne (pc := 9) G 31 dX2_marks_9 (by decide) (fun c3 => ?_) (fun c3 => ?_)
    · rw [if_neg c3] at h
      refine g_iconst (pc := 31) G (v := 0) dX2_marks_31 (by decide) ?_
      cases h
      exact g_zret (pc := 32) G rfl dX2_marks_32
    · rw [if_pos c3] at h
      refine g_aload_n (pc := 12) G dX2_marks_12 1 rfl ?_
      refine g_getIN (pc := 13) G ci_6 (uw_6 G.2.2.2.2.1) (k := 3) (by decide) rfl rfl k2 (q267 G.2.2.2.2.1) dX2_marks_13 ?_
      refine g_if_ne (pc := 16) G 31 dX2_marks_16 (by decide) (fun c4 => ?_) (fun c4 => ?_)
      · rw [if_neg c4] at h
        refine g_iconst (pc := 31) G (v := 0) dX2_marks_31 (by decide) ?_
        cases h
        exact g_zret (pc := 32) G rfl dX2_marks_32
      · rw [if_pos c4] at h
        refine g_aload_n (pc := 19) G dX2_marks_19 1 rfl ?_
        refine g_getIN (pc := 20) G ci_6 (uw_6 G.2.2.2.2.1) (k := 2) (by decide) rfl rfl k2 (q263 G.2.2.2.2.1) dX2_marks_20 ?_
        refine g_iload_n (pc := 23) G dX2_marks_23 2 rfl ?_
        refine g_icmp_ne (pc := 24) G 31 dX2_marks_24 (by decide) (fun c5 => ?_) (fun c5 => ?_)
        · rw [if_neg c5] at h
          refine g_iconst (pc := 31) G (v := 0) dX2_marks_31 (by decide) ?_
          cases h
          exact g_zret (pc := 32) G rfl dX2_marks_32
        · rw [if_pos c5] at h
          refine g_iconst (pc := 27) G (v := 1) dX2_marks_27 (by decide) ?_
          refine g_goto (pc := 28) G 32 dX2_marks_28 (by decide) ?_
          cases h
          exact g_zret (pc := 32) G rfl dX2_marks_32
theorem c_Lx_marks (l : Launch) (D : va_G) (ca : Nat → ClassId) (b : Nat) {T : Tx} {V : Vx} {this : Nat} {p1 : (Option Nat)} {p2 : Int32} {rr : Int32}  (k_this : kd T this = 2) (k_p1 : ∀ a, p1 = some a → kd T a = 6) (h : Lx_marks T V this p1 p2 = some rr) : MG l yX2_marks cX2_marks 3 (Option.some Jvm.ClassFile.FieldType.boolean) 0 0 0 0 D ca b [rv b (some this), rv b p1, .int p2] T V (some (.int rr)) T V :=
  MG.ofWG (L := [(0, rv b (some this)), (1, rv b p1), (2, .int p2)]) (by decide +kernel) (by cases p1 <;> rfl) (by cases p1 <;> exact Nat.le_of_ble_eq_true rfl) (fun _ _ _ _ _ _ _ G _ => w_Lx_marks G ⟨Nat.le_refl _, Nat.le_refl _⟩ k_this k_p1 h)
set_option maxHeartbeats 4000000 in
set_option maxRecDepth 100000 in
theorem w_Lx_lowestMark {p : Program} {l : Launch} {e : Env} {R : Room} {s : State} {m : MethodId} {args : Array Value} {below : List Frame} {meth : Method} {c : Code} {D : va_G} {ca : Nat → ClassId} {b : Nat} {T : Tx} {V : Vx} (G : GX p s m meth c cX2_lowestMark 3 (Option.some Jvm.ClassFile.FieldType.int) RX2 "lowestMark" D ca b) (hR : 1 ≤ R.frames ∧ 22 ≤ R.locals) {this : Nat} {p1 : Int32} {rr : Int32}  (k_this : kd T this = 2) (h : Lx_lowestMark T V this p1 = some rr) : WG p l e R s m args below meth c D ca b 3 (QG D ca b (some (.int rr)) T V below args s 0 0) 0 0 T V 0 [(0, rv b (some this)), (1, .int p1)] [] := by
  unfold Lx_lowestMark at h
  refine g_iconst (pc := 0) G (v := 0) dX2_lowestMark_0 (by decide) ?_
  refine g_istore_n (L' := [(2, .int 0), (0, rv b (some this)), (1, .int p1)]) (pc := 1) G dX2_lowestMark_1 (by decide) rfl ?_
  have LP4 : ∀ (n1 : Nat) (v2 : Int32), Lx_lowestMark_L2 T V this p1 n1 v2 = some rr → WG p l e R s m args below meth c D ca b 3 (QG D ca b (some (.int rr)) T V below args s 0 0) 0 0 T V 2 [(0, rv b (some this)), (1, .int p1), (2, .int v2)] [] := by
    intro n1
    induction n1 with
    | zero =>
      intro v2 h
      cases h
    | succ n1 ih3 =>
      intro v2 h
      rw [Lx_lowestMark_L2] at h
      refine g_iload_n (pc := 2) G dX2_lowestMark_2 2 rfl ?_
      refine g_aload_n (pc := 3) G dX2_lowestMark_3 0 rfl ?_
      refine g_getI (pc := 4) G ci_2 (uw_2 G.2.2.2.2.1) (k := 2) (by decide) rfl rfl k_this (q302 G.2.2.2.2.1) dX2_lowestMark_4 ?_
      refine g_icmp_ge (pc := 7) G 31 dX2_lowestMark_7 (by decide) (fun c5 => ?_) (fun c5 => ?_)
      · rw [if_pos c5] at h
        refine g_bipush (pc := 31) G (v := (-4)) dX2_lowestMark_31 (by decide) ?_
        cases h
        exact g_iret (pc := 33) G dX2_lowestMark_33
      · rw [if_neg c5] at h
        refine g_aload_n (pc := 10) G dX2_lowestMark_10 0 rfl ?_
        refine g_aload_n (pc := 11) G dX2_lowestMark_11 0 rfl ?_
        refine g_iload_n (pc := 12) G dX2_lowestMark_12 2 rfl ?_
        obtain ⟨r7, e6, h⟩ := bd_e h
        refine g_callV (pc := 13) (As := [.int v2]) (rest := [rv b (some this)]) (st2 := [rv b r7, rv b (some this)]) G (c_Lx_signAt l D ca b k_this e6) (mb_Lx_signAt G.2.2.2.2.1) (q463 G.2.2.2.2.1) (q464 G.2.2.2.2.1) (q482 G.2.2.2.2.1) ci_2 k_this rfl rfl (Nat.le_of_ble_eq_true rfl) ⟨Nat.le_trans (Nat.le_of_ble_eq_true rfl) hR.1, Nat.le_trans (Nat.le_of_ble_eq_true rfl) hR.2⟩ ⟨Nat.zero_le _, Nat.zero_le _⟩ rfl rfl dX2_lowestMark_13 ?_
        refine g_iload_n (pc := 16) G dX2_lowestMark_16 1 rfl ?_
        obtain ⟨z8, h⟩ := gd_e h
        obtain ⟨r10, e9, h⟩ := bd_e h
        refine g_callV (pc := 17) (As := [rv b r7, .int p1]) (rest := []) (st2 := [.int r10]) G (c_Lx_marks l D ca b k_this (cko_e z8) e9) (mb_Lx_marks G.2.2.2.2.1) (q617 G.2.2.2.2.1) (q618 G.2.2.2.2.1) (q631 G.2.2.2.2.1) ci_2 k_this rfl rfl (Nat.le_of_ble_eq_true rfl) ⟨Nat.le_trans (Nat.le_of_ble_eq_true rfl) hR.1, Nat.le_trans (Nat.le_of_ble_eq_true rfl) hR.2⟩ ⟨Nat.zero_le _, Nat.zero_le _⟩ rfl rfl dX2_lowestMark_17 ?_
        refine g_if_eq (pc := 20) G 25 dX2_lowestMark_20 (by decide) (fun c11 => ?_) (fun c11 => ?_)
        · rw [if_pos c11] at h
          refine g_iinc (v := v2 + 1) (L' := [(2, .int (v2 + 1)), (0, rv b (some this)), (1, .int p1)]) (pc := 25) G dX2_lowestMark_25 2 rfl rfl (by decide) rfl ?_
          refine g_goto (pc := 28) G 2 dX2_lowestMark_28 (by decide) ?_
          exact g_sub [1, 2, 0] rfl (ih3 _ h)
        · rw [if_neg c11] at h
          refine g_iload_n (pc := 23) G dX2_lowestMark_23 2 rfl ?_
          cases h
          exact g_iret (pc := 24) G dX2_lowestMark_24
  exact g_sub [1, 2, 0] rfl (LP4 _ _ h)
theorem c_Lx_lowestMark (l : Launch) (D : va_G) (ca : Nat → ClassId) (b : Nat) {T : Tx} {V : Vx} {this : Nat} {p1 : Int32} {rr : Int32}  (k_this : kd T this = 2) (h : Lx_lowestMark T V this p1 = some rr) : MG l yX2_lowestMark cX2_lowestMark 3 (Option.some Jvm.ClassFile.FieldType.int) 1 22 0 0 D ca b [rv b (some this), .int p1] T V (some (.int rr)) T V :=
  MG.ofWG (L := [(0, rv b (some this)), (1, .int p1)]) (by decide +kernel) rfl (Nat.le_of_ble_eq_true rfl) (fun _ _ _ _ _ _ _ G _ => w_Lx_lowestMark G ⟨Nat.le_refl _, Nat.le_refl _⟩ k_this h)
set_option maxHeartbeats 4000000 in
set_option maxRecDepth 100000 in
theorem w_Lx_marksOf {p : Program} {l : Launch} {e : Env} {R : Room} {s : State} {m : MethodId} {args : Array Value} {below : List Frame} {meth : Method} {c : Code} {D : va_G} {ca : Nat → ClassId} {b : Nat} {T : Tx} {V : Vx} (G : GX p s m meth c cX2_marksOf 4 (Option.some Jvm.ClassFile.FieldType.int) RX2 "marksOf" D ca b) (hR : 1 ≤ R.frames ∧ 22 ≤ R.locals) {this : Nat} {p1 : Int32} {rr : Int32}  (k_this : kd T this = 2) (h : Lx_marksOf T V this p1 = some rr) : WG p l e R s m args below meth c D ca b 4 (QG D ca b (some (.int rr)) T V below args s 0 0) 0 0 T V 0 [(0, rv b (some this)), (1, .int p1)] [] := by
  unfold Lx_marksOf at h
  refine g_iconst (pc := 0) G (v := 0) dX2_marksOf_0 (by decide) ?_
  refine g_istore_n (L' := [(2, .int 0), (0, rv b (some this)), (1, .int p1)]) (pc := 1) G dX2_marksOf_1 (by decide) rfl ?_
  refine g_iconst (pc := 2) G (v := 0) dX2_marksOf_2 (by decide) ?_
  refine g_istore_n (L' := [(3, .int 0), (2, .int 0), (0, rv b (some this)), (1, .int p1)]) (pc := 3) G dX2_marksOf_3 (by decide) rfl ?_
  have LP5 : ∀ (n1 : Nat) (v2 : Int32) (v3 : Int32), Lx_marksOf_L4 T V this p1 n1 v2 v3 = some rr → WG p l e R s m args below meth c D ca b 4 (QG D ca b (some (.int rr)) T V below args s 0 0) 0 0 T V 4 [(0, rv b (some this)), (1, .int p1), (2, .int v2), (3, .int v3)] [] := by
    intro n1
    induction n1 with
    | zero =>
      intro v2 v3 h
      cases h
    | succ n1 ih4 =>
      intro v2 v3 h
      rw [Lx_marksOf_L4] at h
      refine g_iload_n (pc := 4) G dX2_marksOf_4 3 rfl ?_
      refine g_aload_n (pc := 5) G dX2_marksOf_5 0 rfl ?_
      refine g_getI (pc := 6) G ci_2 (uw_2 G.2.2.2.2.1) (k := 2) (by decide) rfl rfl k_this (q302 G.2.2.2.2.1) dX2_marksOf_6 ?_
      refine g_icmp_ge (pc := 9) G 34 dX2_marksOf_9 (by decide) (fun c6 => ?_) (fun c6 => ?_)
      · rw [if_pos c6] at h
        refine g_iload_n (pc := 34) G dX2_marksOf_34 2 rfl ?_
        cases h
        exact g_iret (pc := 35) G dX2_marksOf_35
      · rw [if_neg c6] at h
        refine g_aload_n (pc := 12) G dX2_marksOf_12 0 rfl ?_
        refine g_aload_n (pc := 13) G dX2_marksOf_13 0 rfl ?_
        refine g_iload_n (pc := 14) G dX2_marksOf_14 3 rfl ?_
        obtain ⟨r8, e7, h⟩ := bd_e h
        refine g_callV (pc := 15) (As := [.int v3]) (rest := [rv b (some this)]) (st2 := [rv b r8, rv b (some this)]) G (c_Lx_signAt l D ca b k_this e7) (mb_Lx_signAt G.2.2.2.2.1) (q463 G.2.2.2.2.1) (q464 G.2.2.2.2.1) (q482 G.2.2.2.2.1) ci_2 k_this rfl rfl (Nat.le_of_ble_eq_true rfl) ⟨Nat.le_trans (Nat.le_of_ble_eq_true rfl) hR.1, Nat.le_trans (Nat.le_of_ble_eq_true rfl) hR.2⟩ ⟨Nat.zero_le _, Nat.zero_le _⟩ rfl rfl dX2_marksOf_15 ?_
        refine g_iload_n (pc := 18) G dX2_marksOf_18 1 rfl ?_
        obtain ⟨z9, h⟩ := gd_e h
        obtain ⟨r11, e10, h⟩ := bd_e h
        refine g_callV (pc := 19) (As := [rv b r8, .int p1]) (rest := []) (st2 := [.int r11]) G (c_Lx_marks l D ca b k_this (cko_e z9) e10) (mb_Lx_marks G.2.2.2.2.1) (q617 G.2.2.2.2.1) (q618 G.2.2.2.2.1) (q631 G.2.2.2.2.1) ci_2 k_this rfl rfl (Nat.le_of_ble_eq_true rfl) ⟨Nat.le_trans (Nat.le_of_ble_eq_true rfl) hR.1, Nat.le_trans (Nat.le_of_ble_eq_true rfl) hR.2⟩ ⟨Nat.zero_le _, Nat.zero_le _⟩ rfl rfl dX2_marksOf_19 ?_
        refine g_if_eq (pc := 22) G 28 dX2_marksOf_22 (by decide) (fun c12 => ?_) (fun c12 => ?_)
        · rw [if_pos c12] at h
          refine g_iinc (v := v3 + 1) (L' := [(3, .int (v3 + 1)), (0, rv b (some this)), (1, .int p1), (2, .int v2)]) (pc := 28) G dX2_marksOf_28 3 rfl rfl (by decide) rfl ?_
          refine g_goto (pc := 31) G 4 dX2_marksOf_31 (by decide) ?_
          exact g_sub [1, 2, 3, 0] rfl (ih4 _ _ h)
        · rw [if_neg c12] at h
          refine g_iinc (v := v2 + 1) (L' := [(2, .int (v2 + 1)), (0, rv b (some this)), (1, .int p1), (3, .int v3)]) (pc := 25) G dX2_marksOf_25 2 rfl rfl (by decide) rfl ?_
          refine g_iinc (v := v3 + 1) (L' := [(3, .int (v3 + 1)), (2, .int (v2 + 1)), (0, rv b (some this)), (1, .int p1)]) (pc := 28) G dX2_marksOf_28 3 rfl rfl (by decide) rfl ?_
          refine g_goto (pc := 31) G 4 dX2_marksOf_31 (by decide) ?_
          exact g_sub [2, 3, 1, 0] rfl (ih4 _ _ h)
  exact g_sub [2, 3, 1, 0] rfl (LP5 _ _ _ h)
theorem c_Lx_marksOf (l : Launch) (D : va_G) (ca : Nat → ClassId) (b : Nat) {T : Tx} {V : Vx} {this : Nat} {p1 : Int32} {rr : Int32}  (k_this : kd T this = 2) (h : Lx_marksOf T V this p1 = some rr) : MG l yX2_marksOf cX2_marksOf 4 (Option.some Jvm.ClassFile.FieldType.int) 1 22 0 0 D ca b [rv b (some this), .int p1] T V (some (.int rr)) T V :=
  MG.ofWG (L := [(0, rv b (some this)), (1, .int p1)]) (by decide +kernel) rfl (Nat.le_of_ble_eq_true rfl) (fun _ _ _ _ _ _ _ G _ => w_Lx_marksOf G ⟨Nat.le_refl _, Nat.le_refl _⟩ k_this h)
set_option maxHeartbeats 4000000 in
set_option maxRecDepth 100000 in
theorem w_Ro_size {p : Program} {l : Launch} {e : Env} {R : Room} {s : State} {m : MethodId} {args : Array Value} {below : List Frame} {meth : Method} {c : Code} {D : va_G} {ca : Nat → ClassId} {b : Nat} {T : Tx} {V : Vx} (G : GX p s m meth c cX5_size 1 (Option.some Jvm.ClassFile.FieldType.int) RX5 "size" D ca b) (hR : 0 ≤ R.frames ∧ 0 ≤ R.locals) {this : Nat} {rr : Int32}  (k_this : kd T this = 4) (h : Ro_size T V this = some rr) : WG p l e R s m args below meth c D ca b 1 (QG D ca b (some (.int rr)) T V below args s 0 0) 0 0 T V 0 [(0, rv b (some this))] [] := by
  unfold Ro_size at h
  refine g_aload_n (pc := 0) G dX5_size_0 0 rfl ?_
  refine g_getI (pc := 1) G ci_4 (uw_4 G.2.2.2.2.1) (k := 1) (by decide) rfl rfl k_this (q104 G.2.2.2.2.1) dX5_size_1 ?_
  cases h
  exact g_iret (pc := 4) G dX5_size_4
theorem c_Ro_size (l : Launch) (D : va_G) (ca : Nat → ClassId) (b : Nat) {T : Tx} {V : Vx} {this : Nat} {rr : Int32}  (k_this : kd T this = 4) (h : Ro_size T V this = some rr) : MG l yX5_size cX5_size 1 (Option.some Jvm.ClassFile.FieldType.int) 0 0 0 0 D ca b [rv b (some this)] T V (some (.int rr)) T V :=
  MG.ofWG (L := [(0, rv b (some this))]) (by decide +kernel) rfl (Nat.le_of_ble_eq_true rfl) (fun _ _ _ _ _ _ _ G _ => w_Ro_size G ⟨Nat.le_refl _, Nat.le_refl _⟩ k_this h)
set_option maxHeartbeats 4000000 in
set_option maxRecDepth 100000 in
theorem w_Ro_at {p : Program} {l : Launch} {e : Env} {R : Room} {s : State} {m : MethodId} {args : Array Value} {below : List Frame} {meth : Method} {c : Code} {D : va_G} {ca : Nat → ClassId} {b : Nat} {T : Tx} {V : Vx} (G : GX p s m meth c cX5_at 2 (Option.some Jvm.ClassFile.FieldType.int) RX5 "at" D ca b) (hR : 0 ≤ R.frames ∧ 0 ≤ R.locals) {this : Nat} {p1 : Int32} {rr : Int32}  (k_this : kd T this = 4) (h : Ro_at T V this p1 = some rr) : WG p l e R s m args below meth c D ca b 2 (QG D ca b (some (.int rr)) T V below args s 0 0) 0 0 T V 0 [(0, rv b (some this)), (1, .int p1)] [] := by
  unfold Ro_at at h
  refine g_iload_n (pc := 0) G dX5_at_0 1 rfl ?_
  refine g_if_lt (pc := 1) G 30 dX5_at_1 (by decide) (fun c1 => ?_) (fun c1 => ?_)
  · rw [if_pos c1] at h
    refine g_bipush (pc := 30) G (v := (-4)) dX5_at_30 (by decide) ?_
    cases h
    exact g_iret (pc := 32) G dX5_at_32
  · rw [if_neg c1] at h
    refine g_iload_n (pc := 4) G dX5_at_4 1 rfl ?_
    refine g_aload_n (pc := 5) G dX5_at_5 0 rfl ?_
    refine g_getI (pc := 6) G ci_4 (uw_4 G.2.2.2.2.1) (k := 1) (by decide) rfl rfl k_this (q104 G.2.2.2.2.1) dX5_at_6 ?_
    refine g_icmp_ge (pc := 9) G 30 dX5_at_9 (by decide) (fun c2 => ?_) (fun c2 => ?_)
    · rw [if_pos c2] at h
      refine g_bipush (pc := 30) G (v := (-4)) dX5_at_30 (by decide) ?_
      cases h
      exact g_iret (pc := 32) G dX5_at_32
    · rw [if_neg c2] at h
      refine g_iload_n (pc := 12) G dX5_at_12 1 rfl ?_
      refine g_aload_n (pc := 13) G dX5_at_13 0 rfl ?_
      obtain ⟨r3, e4, h⟩ := bd_e h
      obtain ⟨f5, k6⟩ := ck_e e4
      refine g_getR (pc := 14) G ci_4 (uw_4 G.2.2.2.2.1) (k := 0) (by decide) rfl rfl k_this (q103 G.2.2.2.2.1) dX5_at_14 f5 ?_
      refine g_alen (pc := 17) G (t0 := 1) k6 (by decide) rfl dX5_at_17 ?_
      refine g_icmp_ge (pc := 18) G 30 dX5_at_18 (by decide) (fun c7 => ?_) (fun c7 => ?_)
      · rw [if_pos c7] at h
        refine g_bipush (pc := 30) G (v := (-4)) dX5_at_30 (by decide) ?_
        cases h
        exact g_iret (pc := 32) G dX5_at_32
      · rw [if_neg c7] at h
        refine g_aload_n (pc := 21) G dX5_at_21 0 rfl ?_
        obtain ⟨r8, e9, h⟩ := bd_e h
        obtain ⟨f10, k11⟩ := ck_e e9
        refine g_getR (pc := 22) G ci_4 (uw_4 G.2.2.2.2.1) (k := 0) (by decide) rfl rfl k_this (q103 G.2.2.2.2.1) dX5_at_22 f10 ?_
        refine g_iload_n (pc := 25) G dX5_at_25 1 rfl ?_
        obtain ⟨b12, h⟩ := gd_e h
        refine g_iald (pc := 26) G k11 b12 dX5_at_26 ?_
        refine g_goto (pc := 27) G 32 dX5_at_27 (by decide) ?_
        cases h
        exact g_iret (pc := 32) G dX5_at_32
theorem c_Ro_at (l : Launch) (D : va_G) (ca : Nat → ClassId) (b : Nat) {T : Tx} {V : Vx} {this : Nat} {p1 : Int32} {rr : Int32}  (k_this : kd T this = 4) (h : Ro_at T V this p1 = some rr) : MG l yX5_at cX5_at 2 (Option.some Jvm.ClassFile.FieldType.int) 0 0 0 0 D ca b [rv b (some this), .int p1] T V (some (.int rr)) T V :=
  MG.ofWG (L := [(0, rv b (some this)), (1, .int p1)]) (by decide +kernel) rfl (Nat.le_of_ble_eq_true rfl) (fun _ _ _ _ _ _ _ G _ => w_Ro_at G ⟨Nat.le_refl _, Nat.le_refl _⟩ k_this h)
