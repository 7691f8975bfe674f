set_option maxHeartbeats 4000000 in
set_option maxRecDepth 100000 in
theorem w_Mo_meets {p : Program} {l : Launch} {e : Env} {R : Room} {s : State} {m : MethodId} {args : Array Value} {below : List Frame} {meth : Method} {c : Code} {D : va_G} {ca : Nat → ClassId} {b : Nat} {T : Tx} {V : Vx} (G : GX p s m meth c cX10_meets 2 (Option.some Jvm.ClassFile.FieldType.int) RX10 "meets" D ca b) (hR : 0 ≤ R.frames ∧ 0 ≤ R.locals) {this : Nat} {p1 : Int32} {rr : Int32} {Vf : Vx} (k_this : kd T this = 9) (h : Mo_meets T V this p1 = some (rr, Vf)) : WG p l e R s m args below meth c D ca b 2 (QG D ca b (some (.int rr)) T Vf below args s 0 0) 0 0 T V 0 [(0, rv b (some this)), (1, .int p1)] [] := by
  unfold Mo_meets at h
  refine g_aload_n (pc := 0) G dX10_meets_0 0 rfl ?_
  obtain ⟨r1, e2, h⟩ := bd_e h
  obtain ⟨f3, k4⟩ := ck_e e2
  refine g_getR (pc := 1) G ci_9 (uw_9 G.2.2.2.2.1) (k := 9) (by decide) rfl rfl k_this (q783 G.2.2.2.2.1) dX10_meets_1 f3 ?_
  refine g_iload_n (pc := 4) G dX10_meets_4 1 rfl ?_
  obtain ⟨b5, h⟩ := gd_e h
  refine g_iald (pc := 5) G k4 b5 dX10_meets_5 ?_
  refine g_if_ge (pc := 6) G 39 dX10_meets_6 (by decide) (fun c6 => ?_) (fun c6 => ?_)
  · rw [if_pos c6] at h
    refine g_aload_n (pc := 39) G dX10_meets_39 0 rfl ?_
    obtain ⟨r7, e8, h⟩ := bd_e h
    obtain ⟨f9, k10⟩ := ck_e e8
    refine g_getR (pc := 40) G ci_9 (uw_9 G.2.2.2.2.1) (k := 9) (by decide) rfl rfl k_this (q783 G.2.2.2.2.1) dX10_meets_40 f9 ?_
    refine g_iload_n (pc := 43) G dX10_meets_43 1 rfl ?_
    obtain ⟨b11, h⟩ := gd_e h
    refine g_iald (pc := 44) G k10 b11 dX10_meets_44 ?_
    cases h
    exact g_iret (pc := 45) G dX10_meets_45
  · rw [if_neg c6] at h
    refine g_aload_n (pc := 9) G dX10_meets_9 0 rfl ?_
    obtain ⟨r12, e13, h⟩ := bd_e h
    obtain ⟨f14, k15⟩ := ck_e e13
    refine g_getR (pc := 10) G ci_9 (uw_9 G.2.2.2.2.1) (k := 9) (by decide) rfl rfl k_this (q783 G.2.2.2.2.1) dX10_meets_10 f14 ?_
    refine g_iload_n (pc := 13) G dX10_meets_13 1 rfl ?_
    refine g_aload_n (pc := 14) G dX10_meets_14 0 rfl ?_
    refine g_getI (pc := 15) G ci_9 (uw_9 G.2.2.2.2.1) (k := 11) (by decide) rfl rfl k_this (q785 G.2.2.2.2.1) dX10_meets_15 ?_
    obtain ⟨b16, h⟩ := gd_e h
    obtain ⟨V17, e18, h⟩ := lt_e h
    refine g_iast (pc := 18) G k15 b16 e18 dX10_meets_18 ?_
    refine g_aload_n (pc := 19) G dX10_meets_19 0 rfl ?_
    obtain ⟨r19, e20, h⟩ := bd_e h
    obtain ⟨f21, k22⟩ := ck_e e20
    refine g_getR (pc := 20) G ci_9 (uw_9 G.2.2.2.2.1) (k := 8) (by decide) rfl rfl k_this (q782 G.2.2.2.2.1) dX10_meets_20 f21 ?_
    refine g_aload_n (pc := 23) G dX10_meets_23 0 rfl ?_
    refine g_getI (pc := 24) G ci_9 (uw_9 G.2.2.2.2.1) (k := 11) (by decide) rfl rfl k_this (q785 G.2.2.2.2.1) dX10_meets_24 ?_
    refine g_iload_n (pc := 27) G dX10_meets_27 1 rfl ?_
    obtain ⟨b23, h⟩ := gd_e h
    obtain ⟨V24, e25, h⟩ := lt_e h
    refine g_iast (pc := 28) G k22 b23 e25 dX10_meets_28 ?_
    refine g_aload_n (pc := 29) G dX10_meets_29 0 rfl ?_
    refine g_dup (pc := 30) G dX10_meets_30 rfl ?_
    refine g_getI (pc := 31) G ci_9 (uw_9 G.2.2.2.2.1) (k := 11) (by decide) rfl rfl k_this (q785 G.2.2.2.2.1) dX10_meets_31 ?_
    refine g_iconst (pc := 34) G (v := 1) dX10_meets_34 (by decide) ?_
    refine g_iadd (pc := 35) G dX10_meets_35 ?_
    obtain ⟨V26, e27, h⟩ := lt_e h
    refine g_putI (pc := 36) G ci_9 (uw_9 G.2.2.2.2.1) (k := 11) (by decide) rfl rfl k_this rfl ⟨rfl, rfl⟩ (q785 G.2.2.2.2.1) e27 dX10_meets_36 ?_
    refine g_aload_n (pc := 39) G dX10_meets_39 0 rfl ?_
    obtain ⟨r28, e29, h⟩ := bd_e h
    obtain ⟨f30, k31⟩ := ck_e e29
    refine g_getR (pc := 40) G ci_9 (uw_9 G.2.2.2.2.1) (k := 9) (by decide) rfl rfl k_this (q783 G.2.2.2.2.1) dX10_meets_40 f30 ?_
    refine g_iload_n (pc := 43) G dX10_meets_43 1 rfl ?_
    obtain ⟨b32, h⟩ := gd_e h
    refine g_iald (pc := 44) G k31 b32 dX10_meets_44 ?_
    cases h
    exact g_iret (pc := 45) G dX10_meets_45
theorem c_Mo_meets (l : Launch) (D : va_G) (ca : Nat → ClassId) (b : Nat) {T : Tx} {V : Vx} {this : Nat} {p1 : Int32} {rr : Int32} {Vf : Vx} (k_this : kd T this = 9) (h : Mo_meets T V this p1 = some (rr, Vf)) : MG l yX10_meets cX10_meets 2 (Option.some Jvm.ClassFile.FieldType.int) 0 0 0 0 D ca b [rv b (some this), .int p1] T V (some (.int rr)) T Vf :=
  MG.ofWG (L := [(0, rv b (some this)), (1, .int p1)]) (by decide +kernel) rfl (Nat.le_of_ble_eq_true rfl) (fun _ _ _ _ _ _ _ G _ => w_Mo_meets G ⟨Nat.le_refl _, Nat.le_refl _⟩ k_this h)
set_option maxHeartbeats 4000000 in
set_option maxRecDepth 100000 in
theorem w_Mo_explores {p : Program} {l : Launch} {e : Env} {R : Room} {s : State} {m : MethodId} {args : Array Value} {below : List Frame} {meth : Method} {c : Code} {D : va_G} {ca : Nat → ClassId} {b : Nat} {T : Tx} {V : Vx} (G : GX p s m meth c cX10_explores 6 (Option.none : Option Jvm.ClassFile.FieldType) RX10 "explores" D ca b) (hR : 4 ≤ R.frames ∧ 95 ≤ R.locals) {this : Nat} {p1 : Int32}  {Vf : Vx} (k_this : kd T this = 9) (h : Mo_explores T V this p1 = some Vf) : WG p l e R s m args below meth c D ca b 6 (QG D ca b none T Vf below args s 0 0) 0 0 T V 0 [(0, rv b (some this)), (1, .int p1)] [] := by
  unfold Mo_explores at h
  refine g_iconst (pc := 0) G (v := 0) dX10_explores_0 (by decide) ?_
  refine g_istore_n (L' := [(2, .int 0), (0, rv b (some this)), (1, .int p1)]) (pc := 1) G dX10_explores_1 (by decide) rfl ?_
  have LP5 : ∀ (n1 : Nat) (V3 : Vx) (v2 : Int32) (V6 : Vx), Mo_explores_L2 T this p1 n1 V3 v2 = some (V6) → WG p l e R s m args below meth c D ca b 6 (QG D ca b none T Vf below args s 0 0) 0 0 T V6 22 [(0, rv b (some this)), (1, .int p1)] [] → WG p l e R s m args below meth c D ca b 6 (QG D ca b none T Vf below args s 0 0) 0 0 T V3 2 [(0, rv b (some this)), (1, .int p1), (2, .int v2)] [] := by
    intro n1
    induction n1 with
    | zero =>
      intro V3 v2 V6 h
      cases h
    | succ n1 ih4 =>
      intro V3 v2 V6 h K7
      rw [Mo_explores_L2] at h
      refine g_iload_n (pc := 2) G dX10_explores_2 2 rfl ?_
      refine g_sipush (pc := 3) G (v := 512) dX10_explores_3 (by decide) ?_
      refine g_icmp_ge (pc := 6) G 22 dX10_explores_6 (by decide) (fun c8 => ?_) (fun c8 => ?_)
      · rw [if_pos c8] at h
        cases h
        exact g_sub [0, 1] rfl K7
      · rw [if_neg c8] at h
        refine g_aload_n (pc := 9) G dX10_explores_9 0 rfl ?_
        obtain ⟨r9, e10, h⟩ := bd_e h
        obtain ⟨f11, k12⟩ := ck_e e10
        refine g_getR (pc := 10) G ci_9 (uw_9 G.2.2.2.2.1) (k := 9) (by decide) rfl rfl k_this (q783 G.2.2.2.2.1) dX10_explores_10 f11 ?_
        refine g_iload_n (pc := 13) G dX10_explores_13 2 rfl ?_
        refine g_iconst (pc := 14) G (v := (-1)) dX10_explores_14 (by decide) ?_
        obtain ⟨b13, h⟩ := gd_e h
        obtain ⟨V14, e15, h⟩ := lt_e h
        refine g_iast (pc := 15) G k12 b13 e15 dX10_explores_15 ?_
        refine g_iinc (v := v2 + 1) (L' := [(2, .int (v2 + 1)), (0, rv b (some this)), (1, .int p1)]) (pc := 16) G dX10_explores_16 2 rfl rfl (by decide) rfl ?_
        refine g_goto (pc := 19) G 2 dX10_explores_19 (by decide) ?_
        exact g_sub [1, 2, 0] rfl (ih4 _ _ _ h K7)
  obtain ⟨V6, e16, h⟩ := bd_e h
  refine g_sub [1, 2, 0] rfl (LP5 _ _ _ _ e16 ?_)
  refine g_aload_n (pc := 22) G dX10_explores_22 0 rfl ?_
  refine g_iconst (pc := 23) G (v := 0) dX10_explores_23 (by decide) ?_
  obtain ⟨V17, e18, h⟩ := lt_e h
  refine g_putI (pc := 24) G ci_9 (uw_9 G.2.2.2.2.1) (k := 11) (by decide) rfl rfl k_this rfl ⟨rfl, rfl⟩ (q785 G.2.2.2.2.1) e18 dX10_explores_24 ?_
  refine g_aload_n (pc := 27) G dX10_explores_27 0 rfl ?_
  refine g_iconst (pc := 28) G (v := 1) dX10_explores_28 (by decide) ?_
  obtain ⟨r21, V20, e19, h⟩ := bd2_e h
  refine g_callV (pc := 29) (As := [.int 1]) (rest := []) (st2 := [.int r21]) G (c_Mo_meets l D ca b k_this e19) (mb_Mo_meets G.2.2.2.2.1) (q945 G.2.2.2.2.1) (q32 G.2.2.2.2.1) (q943 G.2.2.2.2.1) ci_9 k_this rfl rfl (Nat.le_of_ble_eq_true rfl) ⟨Nat.le_trans (Nat.le_of_ble_eq_true rfl) hR.1, Nat.le_trans (Nat.le_of_ble_eq_true rfl) hR.2⟩ ⟨Nat.zero_le _, Nat.zero_le _⟩ rfl rfl dX10_explores_29 ?_
  refine g_istore_n (L' := [(2, .int r21), (0, rv b (some this)), (1, .int p1)]) (pc := 32) G dX10_explores_32 (by decide) rfl ?_
  refine g_iload_n (pc := 33) G dX10_explores_33 0 rfl ?_
  refine g_istore_n (L' := [(3, .int r21), (2, .int r21), (0, rv b (some this)), (1, .int p1)]) (pc := 34) G dX10_explores_34 (by decide) rfl ?_
  have LP26 : ∀ (n22 : Nat) (V24 : Vx) (v23 : Int32), Mo_explores_L35 T this p1 n22 V24 v23 = some Vf → WG p l e R s m args below meth c D ca b 6 (QG D ca b none T Vf below args s 0 0) 0 0 T V24 35 [(0, rv b (some this)), (1, .int p1), (3, .int v23)] [] := by
    intro n22
    induction n22 with
    | zero =>
      intro V24 v23 h
      cases h
    | succ n22 ih25 =>
      intro V24 v23 h
      rw [Mo_explores_L35] at h
      refine g_iload_n (pc := 35) G dX10_explores_35 2 rfl ?_
      refine g_aload_n (pc := 36) G dX10_explores_36 0 rfl ?_
      refine g_getI (pc := 37) G ci_9 (uw_9 G.2.2.2.2.1) (k := 11) (by decide) rfl rfl k_this (q785 G.2.2.2.2.1) dX10_explores_37 ?_
      refine g_icmp_ge (pc := 40) G 135 dX10_explores_40 (by decide) (fun c27 => ?_) (fun c27 => ?_)
      · rw [if_pos c27] at h
        cases h
        exact g_vret (pc := 135) G dX10_explores_135
      · rw [if_neg c27] at h
        refine g_iconst (pc := 43) G (v := 0) dX10_explores_43 (by decide) ?_
        refine g_istore (L' := [(4, .int 0), (0, rv b (some this)), (1, .int p1), (3, .int v23)]) (pc := 44) G dX10_explores_44 (by decide) rfl ?_
        have LP32 : ∀ (n28 : Nat) (V30 : Vx) (v29 : Int32) (V33 : Vx), Mo_explores_L46 T this p1 v23 n28 V30 v29 = some (V33) → WG p l e R s m args below meth c D ca b 6 (QG D ca b none T Vf below args s 0 0) 0 0 T V33 129 [(0, rv b (some this)), (1, .int p1), (3, .int v23)] [] → WG p l e R s m args below meth c D ca b 6 (QG D ca b none T Vf below args s 0 0) 0 0 T V30 46 [(0, rv b (some this)), (1, .int p1), (3, .int v23), (4, .int v29)] [] := by
          intro n28
          induction n28 with
          | zero =>
            intro V30 v29 V33 h
            cases h
          | succ n28 ih31 =>
            intro V30 v29 V33 h K34
            rw [Mo_explores_L46] at h
            refine g_iload (pc := 46) G dX10_explores_46 3 rfl ?_
            refine g_aload_n (pc := 48) G dX10_explores_48 0 rfl ?_
            obtain ⟨r35, e36, h⟩ := bd_e h
            obtain ⟨f37, k38⟩ := ck_e e36
            refine g_getR (pc := 49) G ci_9 (uw_9 G.2.2.2.2.1) (k := 3) (by decide) rfl rfl k_this (q777 G.2.2.2.2.1) dX10_explores_49 f37 ?_
            refine g_sipush (pc := 52) G (v := 164) dX10_explores_52 (by decide) ?_
            obtain ⟨b39, h⟩ := gd_e h
            refine g_iald (pc := 55) G k38 b39 dX10_explores_55 ?_
            refine g_icmp_ge (pc := 56) G 129 dX10_explores_56 (by decide) (fun c40 => ?_) (fun c40 => ?_)
            · rw [if_pos c40] at h
              cases h
              exact g_sub [0, 1, 2] rfl K34
            · rw [if_neg c40] at h
              refine g_aload_n (pc := 59) G dX10_explores_59 0 rfl ?_
              refine g_iload (pc := 60) G dX10_explores_60 3 rfl ?_
              obtain ⟨r42, e41, h⟩ := bd_e h
              refine g_callV (pc := 62) (As := [.int v29]) (rest := []) (st2 := [.int r42]) G (c_Mo_hasSound l D ca b k_this e41) (mb_Mo_hasSound G.2.2.2.2.1) (q949 G.2.2.2.2.1) (q33 G.2.2.2.2.1) (q947 G.2.2.2.2.1) ci_9 k_this rfl rfl (Nat.le_of_ble_eq_true rfl) ⟨Nat.le_trans (Nat.le_of_ble_eq_true rfl) hR.1, Nat.le_trans (Nat.le_of_ble_eq_true rfl) hR.2⟩ ⟨Nat.zero_le _, Nat.zero_le _⟩ rfl rfl dX10_explores_62 ?_
              obtain ⟨x43, hx45, h⟩ := bd_e h
              have K44 : WG p l e R s m args below meth c D ca b 6 (QG D ca b none T Vf below args s 0 0) 0 0 T V30 94 [(0, rv b (some this)), (1, .int p1), (3, .int v23), (4, .int v29)] [.int x43] := by
                refine g_istore (L' := [(5, .int x43), (0, rv b (some this)), (1, .int p1), (3, .int v23), (4, .int v29)]) (pc := 94) G dX10_explores_94 (by decide) rfl ?_
                refine g_aload_n (pc := 96) G dX10_explores_96 1 rfl ?_
                obtain ⟨r58, e59, h⟩ := bd_e h
                obtain ⟨f60, k61⟩ := ck_e e59
                refine g_getR (pc := 97) G ci_9 (uw_9 G.2.2.2.2.1) (k := 10) (by decide) rfl rfl k_this (q784 G.2.2.2.2.1) dX10_explores_97 f60 ?_
                refine g_bipush (pc := 100) G (v := 12) dX10_explores_100 (by decide) ?_
                refine g_iload_n (pc := 102) G dX10_explores_102 3 rfl ?_
                refine g_imul (pc := 103) G dX10_explores_103 ?_
                refine g_iload (pc := 104) G dX10_explores_104 4 rfl ?_
                refine g_iadd (pc := 106) G dX10_explores_106 ?_
                refine g_iload (pc := 107) G dX10_explores_107 0 rfl ?_
                refine g_if_le (pc := 109) G 121 dX10_explores_109 (by decide) (fun c62 => ?_) (fun c62 => ?_)
                · rw [if_pos c62] at h
                  refine g_iconst (pc := 121) G (v := (-1)) dX10_explores_121 (by decide) ?_
                  obtain ⟨b63, h⟩ := gd_e h
                  obtain ⟨V64, e65, h⟩ := lt_e h
                  refine g_iast (pc := 122) G k61 b63 e65 dX10_explores_122 ?_
                  refine g_iinc (v := v29 + 1) (L' := [(4, .int (v29 + 1)), (5, .int x43), (0, rv b (some this)), (1, .int p1), (3, .int v23)]) (pc := 123) G dX10_explores_123 4 rfl rfl (by decide) rfl ?_
                  refine g_goto (pc := 126) G 46 dX10_explores_126 (by decide) ?_
                  exact g_sub [2, 3, 4, 0] rfl (ih31 _ _ _ h K34)
                · rw [if_neg c62] at h
                  refine g_aload_n (pc := 112) G dX10_explores_112 1 rfl ?_
                  refine g_iload (pc := 113) G dX10_explores_113 0 rfl ?_
                  obtain ⟨r68, V67, e66, h⟩ := bd2_e h
                  refine g_callV (pc := 115) (As := [.int x43]) (rest := [.int ((12 * v23) + v29), rv b (some r58)]) (st2 := [.int r68, .int ((12 * v23) + v29), rv b (some r58)]) G (c_Mo_meets l D ca b k_this e66) (mb_Mo_meets G.2.2.2.2.1) (q945 G.2.2.2.2.1) (q32 G.2.2.2.2.1) (q943 G.2.2.2.2.1) ci_9 k_this rfl rfl (Nat.le_of_ble_eq_true rfl) ⟨Nat.le_trans (Nat.le_of_ble_eq_true rfl) hR.1, Nat.le_trans (Nat.le_of_ble_eq_true rfl) hR.2⟩ ⟨Nat.zero_le _, Nat.zero_le _⟩ rfl rfl dX10_explores_115 ?_
                  refine g_goto (pc := 118) G 122 dX10_explores_118 (by decide) ?_
                  obtain ⟨b69, h⟩ := gd_e h
                  obtain ⟨V70, e71, h⟩ := lt_e h
                  refine g_iast (pc := 122) G k61 b69 e71 dX10_explores_122 ?_
                  refine g_iinc (v := v29 + 1) (L' := [(4, .int (v29 + 1)), (5, .int x43), (0, rv b (some this)), (1, .int p1), (3, .int v23)]) (pc := 123) G dX10_explores_123 4 rfl rfl (by decide) rfl ?_
                  refine g_goto (pc := 126) G 46 dX10_explores_126 (by decide) ?_
                  exact g_sub [2, 3, 4, 0] rfl (ih31 _ _ _ h K34)
              refine g_if_eq (pc := 65) G 93 dX10_explores_65 (by decide) (fun c47 => ?_) (fun c47 => ?_)
              · rw [if_pos c47] at hx45
                refine g_iconst (pc := 93) G (v := 0) dX10_explores_93 (by decide) ?_
                cases hx45
                exact g_sub [0, 1, 2, 3] rfl K44
              · rw [if_neg c47] at hx45
                refine g_aload_n (pc := 68) G dX10_explores_68 0 rfl ?_
                refine g_iload (pc := 69) G dX10_explores_69 3 rfl ?_
                obtain ⟨r49, e48, hx45⟩ := bd_e hx45
                refine g_callV (pc := 71) (As := [.int v29]) (rest := []) (st2 := [.int r49]) G (c_Mo_isStruck l D ca b k_this e48) (mb_Mo_isStruck G.2.2.2.2.1) (q901 G.2.2.2.2.1) (q26 G.2.2.2.2.1) (q899 G.2.2.2.2.1) ci_9 k_this rfl rfl (Nat.le_of_ble_eq_true rfl) ⟨Nat.le_trans (Nat.le_of_ble_eq_true rfl) hR.1, Nat.le_trans (Nat.le_of_ble_eq_true rfl) hR.2⟩ ⟨Nat.zero_le _, Nat.zero_le _⟩ rfl rfl dX10_explores_71 ?_
                refine g_if_ne (pc := 74) G 93 dX10_explores_74 (by decide) (fun c50 => ?_) (fun c50 => ?_)
                · rw [if_neg c50] at hx45
                  refine g_iconst (pc := 93) G (v := 0) dX10_explores_93 (by decide) ?_
                  cases hx45
                  exact g_sub [0, 1, 2, 3] rfl K44
                · rw [if_pos c50] at hx45
                  refine g_aload_n (pc := 77) G dX10_explores_77 0 rfl ?_
                  refine g_iload_n (pc := 78) G dX10_explores_78 1 rfl ?_
                  refine g_aload_n (pc := 79) G dX10_explores_79 0 rfl ?_
                  obtain ⟨r51, e52, hx45⟩ := bd_e hx45
                  obtain ⟨f53, k54⟩ := ck_e e52
                  refine g_getR (pc := 80) G ci_9 (uw_9 G.2.2.2.2.1) (k := 8) (by decide) rfl rfl k_this (q782 G.2.2.2.2.1) dX10_explores_80 f53 ?_
                  refine g_iload_n (pc := 83) G dX10_explores_83 2 rfl ?_
                  obtain ⟨b55, hx45⟩ := gd_e hx45
                  refine g_iald (pc := 84) G k54 b55 dX10_explores_84 ?_
                  refine g_iload (pc := 85) G dX10_explores_85 3 rfl ?_
                  obtain ⟨r57, e56, hx45⟩ := bd_e hx45
                  refine g_callV (pc := 87) (As := [.int p1, .int (aI V30 r51 v23.toNatClampNeg), .int v29]) (rest := []) (st2 := [.int r57]) G (c_Mo_steps l D ca b k_this e56) (mb_Mo_steps G.2.2.2.2.1) (q953 G.2.2.2.2.1) (q34 G.2.2.2.2.1) (q951 G.2.2.2.2.1) ci_9 k_this rfl rfl (Nat.le_of_ble_eq_true rfl) ⟨Nat.le_trans (Nat.le_of_ble_eq_true rfl) hR.1, Nat.le_trans (Nat.le_of_ble_eq_true rfl) hR.2⟩ ⟨Nat.zero_le _, Nat.zero_le _⟩ rfl rfl dX10_explores_87 ?_
                  refine g_goto (pc := 90) G 94 dX10_explores_90 (by decide) ?_
                  cases hx45
                  exact g_sub [0, 1, 2, 3] rfl K44
        obtain ⟨V33, e72, h⟩ := bd_e h
        refine g_sub [1, 2, 3, 0] rfl (LP32 _ _ _ _ e72 ?_)
        refine g_iinc (v := v23 + 1) (L' := [(3, .int (v23 + 1)), (0, rv b (some this)), (1, .int p1)]) (pc := 129) G dX10_explores_129 2 rfl rfl (by decide) rfl ?_
        refine g_goto (pc := 132) G 35 dX10_explores_132 (by decide) ?_
        exact g_sub [1, 2, 0] rfl (ih25 _ _ h)
  exact g_sub [2, 3, 0] rfl (LP26 _ _ _ h)
theorem c_Mo_explores (l : Launch) (D : va_G) (ca : Nat → ClassId) (b : Nat) {T : Tx} {V : Vx} {this : Nat} {p1 : Int32}  {Vf : Vx} (k_this : kd T this = 9) (h : Mo_explores T V this p1 = some Vf) : MG l yX10_explores cX10_explores 6 (Option.none : Option Jvm.ClassFile.FieldType) 4 95 0 0 D ca b [rv b (some this), .int p1] T V none T Vf :=
  MG.ofWG (L := [(0, rv b (some this)), (1, .int p1)]) (by decide +kernel) rfl (Nat.le_of_ble_eq_true rfl) (fun _ _ _ _ _ _ _ G _ => w_Mo_explores G ⟨Nat.le_refl _, Nat.le_refl _⟩ k_this h)
set_option maxHeartbeats 4000000 in
set_option maxRecDepth 100000 in
theorem w_Mo_mosts {p : Program} {l : Launch} {e : Env} {R : Room} {s : State} {m : MethodId} {args : Array Value} {below : List Frame} {meth : Method} {c : Code} {D : va_G} {ca : Nat → ClassId} {b : Nat} {T : Tx} {V : Vx} (G : GX p s m meth c cX10_mosts 7 (Option.none : Option Jvm.ClassFile.FieldType) RX10 "mosts" D ca b) (hR : 5 ≤ R.frames ∧ 120 ≤ R.locals) {this : Nat} {p1 : Int32}  {Vf : Vx} (k_this : kd T this = 9) (h : Mo_mosts T V this p1 = some Vf) : WG p l e R s m args below meth c D ca b 7 (QG D ca b none T Vf below args s 0 0) 0 0 T V 0 [(0, rv b (some this)), (1, .int p1)] [] := by
  unfold Mo_mosts at h
  refine g_aload_n (pc := 0) G dX10_mosts_0 0 rfl ?_
  refine g_iload_n (pc := 1) G dX10_mosts_1 1 rfl ?_
  obtain ⟨V2, e1, h⟩ := bd_e h
  refine g_callV (pc := 2) (As := [.int p1]) (rest := []) (st2 := []) G (c_Mo_explores l D ca b k_this e1) (mb_Mo_explores G.2.2.2.2.1) (q941 G.2.2.2.2.1) (q31 G.2.2.2.2.1) (q939 G.2.2.2.2.1) ci_9 k_this rfl rfl (Nat.le_of_ble_eq_true rfl) ⟨Nat.le_trans (Nat.le_of_ble_eq_true rfl) hR.1, Nat.le_trans (Nat.le_of_ble_eq_true rfl) hR.2⟩ ⟨Nat.zero_le _, Nat.zero_le _⟩ rfl rfl dX10_mosts_2 ?_
  refine g_iconst (pc := 5) G (v := 0) dX10_mosts_5 (by decide) ?_
  refine g_istore_n (L' := [(2, .int 0), (0, rv b (some this)), (1, .int p1)]) (pc := 6) G dX10_mosts_6 (by decide) rfl ?_
  have LP7 : ∀ (n3 : Nat) (V5 : Vx) (v4 : Int32) (V8 : Vx), Mo_mosts_L7 T this p1 n3 V5 v4 = some (V8) → WG p l e R s m args below meth c D ca b 7 (QG D ca b none T Vf below args s 0 0) 0 0 T V8 46 [(0, rv b (some this))] [] → WG p l e R s m args below meth c D ca b 7 (QG D ca b none T Vf below args s 0 0) 0 0 T V5 7 [(0, rv b (some this)), (1, .int p1), (2, .int v4)] [] := by
    intro n3
    induction n3 with
    | zero =>
      intro V5 v4 V8 h
      cases h
    | succ n3 ih6 =>
      intro V5 v4 V8 h K9
      rw [Mo_mosts_L7] at h
      refine g_iload_n (pc := 7) G dX10_mosts_7 2 rfl ?_
      refine g_aload_n (pc := 8) G dX10_mosts_8 0 rfl ?_
      refine g_getI (pc := 9) G ci_9 (uw_9 G.2.2.2.2.1) (k := 11) (by decide) rfl rfl k_this (q785 G.2.2.2.2.1) dX10_mosts_9 ?_
      refine g_icmp_ge (pc := 12) G 46 dX10_mosts_12 (by decide) (fun c10 => ?_) (fun c10 => ?_)
      · rw [if_pos c10] at h
        cases h
        exact g_sub [0] rfl K9
      · rw [if_neg c10] at h
        refine g_aload_n (pc := 15) G dX10_mosts_15 0 rfl ?_
        obtain ⟨r11, e12, h⟩ := bd_e h
        obtain ⟨f13, k14⟩ := ck_e e12
        refine g_getR (pc := 16) G ci_9 (uw_9 G.2.2.2.2.1) (k := 12) (by decide) rfl rfl k_this (q786 G.2.2.2.2.1) dX10_mosts_16 f13 ?_
        refine g_iload_n (pc := 19) G dX10_mosts_19 2 rfl ?_
        refine g_aload_n (pc := 20) G dX10_mosts_20 0 rfl ?_
        refine g_iload_n (pc := 21) G dX10_mosts_21 1 rfl ?_
        refine g_aload_n (pc := 22) G dX10_mosts_22 0 rfl ?_
        obtain ⟨r15, e16, h⟩ := bd_e h
        obtain ⟨f17, k18⟩ := ck_e e16
        refine g_getR (pc := 23) G ci_9 (uw_9 G.2.2.2.2.1) (k := 8) (by decide) rfl rfl k_this (q782 G.2.2.2.2.1) dX10_mosts_23 f17 ?_
        refine g_iload_n (pc := 26) G dX10_mosts_26 2 rfl ?_
        obtain ⟨b19, h⟩ := gd_e h
        refine g_iald (pc := 27) G k18 b19 dX10_mosts_27 ?_
        obtain ⟨r21, e20, h⟩ := bd_e h
        refine g_callV (pc := 28) (As := [.int p1, .int (aI V5 r15 v4.toNatClampNeg)]) (rest := [.int v4, rv b (some r11)]) (st2 := [.int r21, .int v4, rv b (some r11)]) G (c_Mo_isWhole l D ca b k_this e20) (mb_Mo_isWhole G.2.2.2.2.1) (q981 G.2.2.2.2.1) (q41 G.2.2.2.2.1) (q979 G.2.2.2.2.1) ci_9 k_this rfl rfl (Nat.le_of_ble_eq_true rfl) ⟨Nat.le_trans (Nat.le_of_ble_eq_true rfl) hR.1, Nat.le_trans (Nat.le_of_ble_eq_true rfl) hR.2⟩ ⟨Nat.zero_le _, Nat.zero_le _⟩ rfl rfl dX10_mosts_28 ?_
        refine g_if_eq (pc := 31) G 38 dX10_mosts_31 (by decide) (fun c22 => ?_) (fun c22 => ?_)
        · rw [if_pos c22] at h
          refine g_iconst (pc := 38) G (v := (-1)) dX10_mosts_38 (by decide) ?_
          obtain ⟨b23, h⟩ := gd_e h
          obtain ⟨V24, e25, h⟩ := lt_e h
          refine g_iast (pc := 39) G k14 b23 e25 dX10_mosts_39 ?_
          refine g_iinc (v := v4 + 1) (L' := [(2, .int (v4 + 1)), (0, rv b (some this)), (1, .int p1)]) (pc := 40) G dX10_mosts_40 2 rfl rfl (by decide) rfl ?_
          refine g_goto (pc := 43) G 7 dX10_mosts_43 (by decide) ?_
          exact g_sub [1, 2, 0] rfl (ih6 _ _ _ h K9)
        · rw [if_neg c22] at h
          refine g_iconst (pc := 34) G (v := 0) dX10_mosts_34 (by decide) ?_
          refine g_goto (pc := 35) G 39 dX10_mosts_35 (by decide) ?_
          obtain ⟨b26, h⟩ := gd_e h
          obtain ⟨V27, e28, h⟩ := lt_e h
          refine g_iast (pc := 39) G k14 b26 e28 dX10_mosts_39 ?_
          refine g_iinc (v := v4 + 1) (L' := [(2, .int (v4 + 1)), (0, rv b (some this)), (1, .int p1)]) (pc := 40) G dX10_mosts_40 2 rfl rfl (by decide) rfl ?_
          refine g_goto (pc := 43) G 7 dX10_mosts_43 (by decide) ?_
          exact g_sub [1, 2, 0] rfl (ih6 _ _ _ h K9)
  obtain ⟨V8, e29, h⟩ := bd_e h
  refine g_sub [1, 2, 0] rfl (LP7 _ _ _ _ e29 ?_)
  refine g_iconst (pc := 46) G (v := 1) dX10_mosts_46 (by decide) ?_
  refine g_istore_n (L' := [(2, .int 1), (0, rv b (some this))]) (pc := 47) G dX10_mosts_47 (by decide) rfl ?_
  have LP34 : ∀ (n30 : Nat) (V32 : Vx) (v31 : Int32), Mo_mosts_L48 T this n30 V32 v31 = some Vf → WG p l e R s m args below meth c D ca b 7 (QG D ca b none T Vf below args s 0 0) 0 0 T V32 48 [(0, rv b (some this)), (2, .int v31)] [] := by
    intro n30
    induction n30 with
    | zero =>
      intro V32 v31 h
      cases h
    | succ n30 ih33 =>
      intro V32 v31 h
      rw [Mo_mosts_L48] at h
      refine g_iload_n (pc := 48) G dX10_mosts_48 1 rfl ?_
      refine g_bipush (pc := 49) G (v := 10) dX10_mosts_49 (by decide) ?_
      refine g_icmp_ge (pc := 51) G 196 dX10_mosts_51 (by decide) (fun c35 => ?_) (fun c35 => ?_)
      · rw [if_pos c35] at h
        cases h
        exact g_vret (pc := 196) G dX10_mosts_196
      · rw [if_neg c35] at h
        refine g_iconst (pc := 54) G (v := 0) dX10_mosts_54 (by decide) ?_
        refine g_istore_n (L' := [(3, .int 0), (0, rv b (some this)), (2, .int v31)]) (pc := 55) G dX10_mosts_55 (by decide) rfl ?_
        have LP40 : ∀ (n36 : Nat) (V38 : Vx) (v37 : Int32) (V41 : Vx), Mo_mosts_L56 T this v31 n36 V38 v37 = some (V41) → WG p l e R s m args below meth c D ca b 7 (QG D ca b none T Vf below args s 0 0) 0 0 T V41 190 [(0, rv b (some this)), (2, .int v31)] [] → WG p l e R s m args below meth c D ca b 7 (QG D ca b none T Vf below args s 0 0) 0 0 T V38 56 [(0, rv b (some this)), (2, .int v31), (3, .int v37)] [] := by
          intro n36
          induction n36 with
          | zero =>
            intro V38 v37 V41 h
            cases h
          | succ n36 ih39 =>
            intro V38 v37 V41 h K42
            rw [Mo_mosts_L56] at h
            refine g_iload_n (pc := 56) G dX10_mosts_56 2 rfl ?_
            refine g_aload_n (pc := 57) G dX10_mosts_57 0 rfl ?_
            refine g_getI (pc := 58) G ci_9 (uw_9 G.2.2.2.2.1) (k := 11) (by decide) rfl rfl k_this (q785 G.2.2.2.2.1) dX10_mosts_58 ?_
            refine g_icmp_ge (pc := 61) G 190 dX10_mosts_61 (by decide) (fun c43 => ?_) (fun c43 => ?_)
            · rw [if_pos c43] at h
              cases h
              exact g_sub [0, 1] rfl K42
            · rw [if_neg c43] at h
              refine g_iconst (pc := 64) G (v := (-1)) dX10_mosts_64 (by decide) ?_
              refine g_istore (L' := [(4, .int (-1)), (0, rv b (some this)), (2, .int v31), (3, .int v37)]) (pc := 65) G dX10_mosts_65 (by decide) rfl ?_
              refine g_iconst (pc := 67) G (v := 0) dX10_mosts_67 (by decide) ?_
              refine g_istore (L' := [(5, .int 0), (4, .int (-1)), (0, rv b (some this)), (2, .int v31), (3, .int v37)]) (pc := 68) G dX10_mosts_68 (by decide) rfl ?_
              have LP48 : ∀ (n44 : Nat) (v45 : Int32) (v46 : Int32) (y49 : Int32), Mo_mosts_L70 T V38 this v31 v37 n44 v45 v46 = some (y49) → WG p l e R s m args below meth c D ca b 7 (QG D ca b none T Vf below args s 0 0) 0 0 T V38 170 [(0, rv b (some this)), (2, .int v31), (3, .int v37), (4, .int y49)] [] → WG p l e R s m args below meth c D ca b 7 (QG D ca b none T Vf below args s 0 0) 0 0 T V38 70 [(0, rv b (some this)), (2, .int v31), (3, .int v37), (4, .int v45), (5, .int v46)] [] := by
                intro n44
                induction n44 with
                | zero =>
                  intro v45 v46 y49 h
                  cases h
                | succ n44 ih47 =>
                  intro v45 v46 y49 h K50
                  rw [Mo_mosts_L70] at h
                  refine g_iload (pc := 70) G dX10_mosts_70 4 rfl ?_
                  refine g_aload_n (pc := 72) G dX10_mosts_72 0 rfl ?_
                  obtain ⟨r51, e52, h⟩ := bd_e h
                  obtain ⟨f53, k54⟩ := ck_e e52
                  refine g_getR (pc := 73) G ci_9 (uw_9 G.2.2.2.2.1) (k := 3) (by decide) rfl rfl k_this (q777 G.2.2.2.2.1) dX10_mosts_73 f53 ?_
                  refine g_sipush (pc := 76) G (v := 164) dX10_mosts_76 (by decide) ?_
                  obtain ⟨b55, h⟩ := gd_e h
                  refine g_iald (pc := 79) G k54 b55 dX10_mosts_79 ?_
                  refine g_icmp_ge (pc := 80) G 170 dX10_mosts_80 (by decide) (fun c56 => ?_) (fun c56 => ?_)
                  · rw [if_pos c56] at h
                    cases h
                    exact g_sub [0, 1, 2, 3] rfl K50
                  · rw [if_neg c56] at h
                    refine g_aload_n (pc := 83) G dX10_mosts_83 0 rfl ?_
                    obtain ⟨r57, e58, h⟩ := bd_e h
                    obtain ⟨f59, k60⟩ := ck_e e58
                    refine g_getR (pc := 84) G ci_9 (uw_9 G.2.2.2.2.1) (k := 10) (by decide) rfl rfl k_this (q784 G.2.2.2.2.1) dX10_mosts_84 f59 ?_
                    refine g_bipush (pc := 87) G (v := 12) dX10_mosts_87 (by decide) ?_
                    refine g_iload_n (pc := 89) G dX10_mosts_89 2 rfl ?_
                    refine g_imul (pc := 90) G dX10_mosts_90 ?_
                    refine g_iload (pc := 91) G dX10_mosts_91 4 rfl ?_
                    refine g_iadd (pc := 93) G dX10_mosts_93 ?_
                    obtain ⟨b61, h⟩ := gd_e h
                    refine g_iald (pc := 94) G k60 b61 dX10_mosts_94 ?_
                    obtain ⟨x62, hx64, h⟩ := bd_e h
                    have K63 : WG p l e R s m args below meth c D ca b 7 (QG D ca b none T Vf below args s 0 0) 0 0 T V38 127 [(0, rv b (some this)), (2, .int v31), (3, .int v37), (4, .int v45), (5, .int v46)] [.int x62] := by
                      refine g_istore (L' := [(6, .int x62), (0, rv b (some this)), (2, .int v31), (3, .int v37), (4, .int v45), (5, .int v46)]) (pc := 127) G dX10_mosts_127 (by decide) rfl ?_
                      refine g_iload (pc := 129) G dX10_mosts_129 0 rfl ?_
                      refine g_if_lt (pc := 131) G 160 dX10_mosts_131 (by decide) (fun c77 => ?_) (fun c77 => ?_)
                      · rw [if_pos c77] at h
                        refine g_iload (pc := 160) G dX10_mosts_160 4 rfl ?_
                        refine g_istore (L' := [(4, .int v45), (6, .int x62), (0, rv b (some this)), (2, .int v31), (3, .int v37), (5, .int v46)]) (pc := 162) G dX10_mosts_162 (by decide) rfl ?_
                        refine g_iinc (v := v46 + 1) (L' := [(5, .int (v46 + 1)), (4, .int v45), (6, .int x62), (0, rv b (some this)), (2, .int v31), (3, .int v37)]) (pc := 164) G dX10_mosts_164 5 rfl rfl (by decide) rfl ?_
                        refine g_goto (pc := 167) G 70 dX10_mosts_167 (by decide) ?_
                        exact g_sub [3, 4, 5, 1, 0] rfl (ih47 _ _ _ h K50)
                      · rw [if_neg c77] at h
                        refine g_iload (pc := 134) G dX10_mosts_134 0 rfl ?_
                        refine g_aload_n (pc := 136) G dX10_mosts_136 1 rfl ?_
                        refine g_iload (pc := 137) G dX10_mosts_137 5 rfl ?_
                        obtain ⟨r79, e78, h⟩ := bd_e h
                        refine g_callV (pc := 139) (As := [.int v46]) (rest := [.int x62]) (st2 := [.int r79, .int x62]) G (c_Mo_soundLong l D ca b k_this e78) (mb_Mo_soundLong G.2.2.2.2.1) (q977 G.2.2.2.2.1) (q40 G.2.2.2.2.1) (q975 G.2.2.2.2.1) ci_9 k_this rfl rfl (Nat.le_of_ble_eq_true rfl) ⟨Nat.le_trans (Nat.le_of_ble_eq_true rfl) hR.1, Nat.le_trans (Nat.le_of_ble_eq_true rfl) hR.2⟩ ⟨Nat.zero_le _, Nat.zero_le _⟩ rfl rfl dX10_mosts_139 ?_
                        refine g_iadd (pc := 142) G dX10_mosts_142 ?_
                        refine g_iload (pc := 143) G dX10_mosts_143 4 rfl ?_
                        refine g_icmp_le (pc := 145) G 160 dX10_mosts_145 (by decide) (fun c80 => ?_) (fun c80 => ?_)
                        · rw [if_pos c80] at h
                          refine g_iload (pc := 160) G dX10_mosts_160 4 rfl ?_
                          refine g_istore (L' := [(4, .int v45), (6, .int x62), (0, rv b (some this)), (2, .int v31), (3, .int v37), (5, .int v46)]) (pc := 162) G dX10_mosts_162 (by decide) rfl ?_
                          refine g_iinc (v := v46 + 1) (L' := [(5, .int (v46 + 1)), (4, .int v45), (6, .int x62), (0, rv b (some this)), (2, .int v31), (3, .int v37)]) (pc := 164) G dX10_mosts_164 5 rfl rfl (by decide) rfl ?_
                          refine g_goto (pc := 167) G 70 dX10_mosts_167 (by decide) ?_
                          exact g_sub [3, 4, 5, 1, 0] rfl (ih47 _ _ _ h K50)
                        · rw [if_neg c80] at h
                          refine g_iload (pc := 148) G dX10_mosts_148 0 rfl ?_
                          refine g_aload_n (pc := 150) G dX10_mosts_150 1 rfl ?_
                          refine g_iload (pc := 151) G dX10_mosts_151 5 rfl ?_
                          obtain ⟨r82, e81, h⟩ := bd_e h
                          refine g_callV (pc := 153) (As := [.int v46]) (rest := [.int x62]) (st2 := [.int r82, .int x62]) G (c_Mo_soundLong l D ca b k_this e81) (mb_Mo_soundLong G.2.2.2.2.1) (q977 G.2.2.2.2.1) (q40 G.2.2.2.2.1) (q975 G.2.2.2.2.1) ci_9 k_this rfl rfl (Nat.le_of_ble_eq_true rfl) ⟨Nat.le_trans (Nat.le_of_ble_eq_true rfl) hR.1, Nat.le_trans (Nat.le_of_ble_eq_true rfl) hR.2⟩ ⟨Nat.zero_le _, Nat.zero_le _⟩ rfl rfl dX10_mosts_153 ?_
                          refine g_iadd (pc := 156) G dX10_mosts_156 ?_
                          refine g_goto (pc := 157) G 162 dX10_mosts_157 (by decide) ?_
                          obtain ⟨x83, e84, h⟩ := lt_e h
                          rw [e84]
                          refine g_istore (L' := [(4, .int x83), (6, .int x62), (0, rv b (some this)), (2, .int v31), (3, .int v37), (5, .int v46)]) (pc := 162) G dX10_mosts_162 (by decide) rfl ?_
                          refine g_iinc (v := v46 + 1) (L' := [(5, .int (v46 + 1)), (4, .int x83), (6, .int x62), (0, rv b (some this)), (2, .int v31), (3, .int v37)]) (pc := 164) G dX10_mosts_164 5 rfl rfl (by decide) rfl ?_
                          refine g_goto (pc := 167) G 70 dX10_mosts_167 (by decide) ?_
                          exact g_sub [3, 4, 5, 1, 0] rfl (ih47 _ _ _ h K50)
                    refine g_if_lt (pc := 95) G 126 dX10_mosts_95 (by decide) (fun c66 => ?_) (fun c66 => ?_)
                    · rw [if_pos c66] at hx64
                      refine g_iconst (pc := 126) G (v := (-1)) dX10_mosts_126 (by decide) ?_
                      cases hx64
                      exact g_sub [0, 1, 2, 3, 4] rfl K63
                    · rw [if_neg c66] at hx64
                      refine g_aload_n (pc := 98) G dX10_mosts_98 0 rfl ?_
                      obtain ⟨r67, e68, hx64⟩ := bd_e hx64
                      obtain ⟨f69, k70⟩ := ck_e e68
                      refine g_getR (pc := 99) G ci_9 (uw_9 G.2.2.2.2.1) (k := 12) (by decide) rfl rfl k_this (q786 G.2.2.2.2.1) dX10_mosts_99 f69 ?_
                      refine g_sipush (pc := 102) G (v := 512) dX10_mosts_102 (by decide) ?_
                      refine g_iload_n (pc := 105) G dX10_mosts_105 1 rfl ?_
                      refine g_iconst (pc := 106) G (v := 1) dX10_mosts_106 (by decide) ?_
                      refine g_isub (pc := 107) G dX10_mosts_107 ?_
                      refine g_imul (pc := 108) G dX10_mosts_108 ?_
                      refine g_aload_n (pc := 109) G dX10_mosts_109 0 rfl ?_
                      obtain ⟨r71, e72, hx64⟩ := bd_e hx64
                      obtain ⟨f73, k74⟩ := ck_e e72
                      refine g_getR (pc := 110) G ci_9 (uw_9 G.2.2.2.2.1) (k := 10) (by decide) rfl rfl k_this (q784 G.2.2.2.2.1) dX10_mosts_110 f73 ?_
                      refine g_bipush (pc := 113) G (v := 12) dX10_mosts_113 (by decide) ?_
                      refine g_iload_n (pc := 115) G dX10_mosts_115 2 rfl ?_
                      refine g_imul (pc := 116) G dX10_mosts_116 ?_
                      refine g_iload (pc := 117) G dX10_mosts_117 4 rfl ?_
                      refine g_iadd (pc := 119) G dX10_mosts_119 ?_
                      obtain ⟨b75, hx64⟩ := gd_e hx64
                      refine g_iald (pc := 120) G k74 b75 dX10_mosts_120 ?_
                      refine g_iadd (pc := 121) G dX10_mosts_121 ?_
                      obtain ⟨b76, hx64⟩ := gd_e hx64
                      refine g_iald (pc := 122) G k70 b76 dX10_mosts_122 ?_
                      refine g_goto (pc := 123) G 127 dX10_mosts_123 (by decide) ?_
                      cases hx64
                      exact g_sub [0, 1, 2, 3, 4] rfl K63
              obtain ⟨y49, e85, h⟩ := bd_e h
              refine g_sub [2, 3, 4, 1, 0] rfl (LP48 _ _ _ _ e85 ?_)
              refine g_aload_n (pc := 170) G dX10_mosts_170 0 rfl ?_
              obtain ⟨r86, e87, h⟩ := bd_e h
              obtain ⟨f88, k89⟩ := ck_e e87
              refine g_getR (pc := 171) G ci_9 (uw_9 G.2.2.2.2.1) (k := 12) (by decide) rfl rfl k_this (q786 G.2.2.2.2.1) dX10_mosts_171 f88 ?_
              refine g_sipush (pc := 174) G (v := 512) dX10_mosts_174 (by decide) ?_
              refine g_iload_n (pc := 177) G dX10_mosts_177 1 rfl ?_
              refine g_imul (pc := 178) G dX10_mosts_178 ?_
              refine g_iload_n (pc := 179) G dX10_mosts_179 2 rfl ?_
              refine g_iadd (pc := 180) G dX10_mosts_180 ?_
              refine g_iload (pc := 181) G dX10_mosts_181 3 rfl ?_
              obtain ⟨b90, h⟩ := gd_e h
              obtain ⟨V91, e92, h⟩ := lt_e h
              refine g_iast (pc := 183) G k89 b90 e92 dX10_mosts_183 ?_
              refine g_iinc (v := v37 + 1) (L' := [(3, .int (v37 + 1)), (0, rv b (some this)), (2, .int v31), (4, .int y49)]) (pc := 184) G dX10_mosts_184 2 rfl rfl (by decide) rfl ?_
              refine g_goto (pc := 187) G 56 dX10_mosts_187 (by decide) ?_
              exact g_sub [1, 2, 0] rfl (ih39 _ _ _ h K42)
        obtain ⟨V41, e93, h⟩ := bd_e h
        refine g_sub [1, 2, 0] rfl (LP40 _ _ _ _ e93 ?_)
        refine g_iinc (v := v31 + 1) (L' := [(2, .int (v31 + 1)), (0, rv b (some this))]) (pc := 190) G dX10_mosts_190 1 rfl rfl (by decide) rfl ?_
        refine g_goto (pc := 193) G 48 dX10_mosts_193 (by decide) ?_
        exact g_sub [1, 0] rfl (ih33 _ _ h)
  exact g_sub [1, 0] rfl (LP34 _ _ _ h)
theorem c_Mo_mosts (l : Launch) (D : va_G) (ca : Nat → ClassId) (b : Nat) {T : Tx} {V : Vx} {this : Nat} {p1 : Int32}  {Vf : Vx} (k_this : kd T this = 9) (h : Mo_mosts T V this p1 = some Vf) : MG l yX10_mosts cX10_mosts 7 (Option.none : Option Jvm.ClassFile.FieldType) 5 120 0 0 D ca b [rv b (some this), .int p1] T V none T Vf :=
  MG.ofWG (L := [(0, rv b (some this)), (1, .int p1)]) (by decide +kernel) rfl (Nat.le_of_ble_eq_true rfl) (fun _ _ _ _ _ _ _ G _ => w_Mo_mosts G ⟨Nat.le_refl _, Nat.le_refl _⟩ k_this h)
set_option maxHeartbeats 4000000 in
set_option maxRecDepth 100000 in
theorem w_Mo_leasts {p : Program} {l : Launch} {e : Env} {R : Room} {s : State} {m : MethodId} {args : Array Value} {below : List Frame} {meth : Method} {c : Code} {D : va_G} {ca : Nat → ClassId} {b : Nat} {T : Tx} {V : Vx} (G : GX p s m meth c cX10_leasts 7 (Option.some Jvm.ClassFile.FieldType.int) RX10 "leasts" D ca b) (hR : 6 ≤ R.frames ∧ 146 ≤ R.locals) {this : Nat} {p1 : Int32} {rr : Int32} {Vf : Vx} (k_this : kd T this = 9) (h : Mo_leasts T V this p1 = some (rr, Vf)) : WG p l e R s m args below meth c D ca b 7 (QG D ca b (some (.int rr)) T Vf below args s 0 0) 0 0 T V 0 [(0, rv b (some this)), (1, .int p1)] [] := by
  unfold Mo_leasts at h
  refine g_aload_n (pc := 0) G dX10_leasts_0 0 rfl ?_
  refine g_iload_n (pc := 1) G dX10_leasts_1 1 rfl ?_
  obtain ⟨V2, e1, h⟩ := bd_e h
  refine g_callV (pc := 2) (As := [.int p1]) (rest := []) (st2 := []) G (c_Mo_mosts l D ca b k_this e1) (mb_Mo_mosts G.2.2.2.2.1) (q937 G.2.2.2.2.1) (q30 G.2.2.2.2.1) (q935 G.2.2.2.2.1) ci_9 k_this rfl rfl (Nat.le_of_ble_eq_true rfl) ⟨Nat.le_trans (Nat.le_of_ble_eq_true rfl) hR.1, Nat.le_trans (Nat.le_of_ble_eq_true rfl) hR.2⟩ ⟨Nat.zero_le _, Nat.zero_le _⟩ rfl rfl dX10_leasts_2 ?_
  refine g_iconst (pc := 5) G (v := 1) dX10_leasts_5 (by decide) ?_
  refine g_istore_n (L' := [(2, .int 1), (0, rv b (some this)), (1, .int p1)]) (pc := 6) G dX10_leasts_6 (by decide) rfl ?_
  have LP6 : ∀ (n3 : Nat) (v4 : Int32) (y7 : Int32), Mo_leasts_L7 T V2 this p1 n3 v4 = some (y7) → WG p l e R s m args below meth c D ca b 7 (QG D ca b (some (.int rr)) T Vf below args s 0 0) 0 0 T V2 32 [(0, rv b (some this)), (1, .int p1), (2, .int y7)] [] → WG p l e R s m args below meth c D ca b 7 (QG D ca b (some (.int rr)) T Vf below args s 0 0) 0 0 T V2 7 [(0, rv b (some this)), (1, .int p1), (2, .int v4)] [] := by
    intro n3
    induction n3 with
    | zero =>
      intro v4 y7 h
      cases h
    | succ n3 ih5 =>
      intro v4 y7 h K8
      rw [Mo_leasts_L7] at h
      refine g_iload_n (pc := 7) G dX10_leasts_7 2 rfl ?_
      refine g_bipush (pc := 8) G (v := 10) dX10_leasts_8 (by decide) ?_
      refine g_icmp_ge (pc := 10) G 32 dX10_leasts_10 (by decide) (fun c9 => ?_) (fun c9 => ?_)
      · rw [if_pos c9] at h
        cases h
        exact g_sub [0, 1, 2] rfl K8
      · rw [if_neg c9] at h
        refine g_aload_n (pc := 13) G dX10_leasts_13 0 rfl ?_
        obtain ⟨r10, e11, h⟩ := bd_e h
        obtain ⟨f12, k13⟩ := ck_e e11
        refine g_getR (pc := 14) G ci_9 (uw_9 G.2.2.2.2.1) (k := 12) (by decide) rfl rfl k_this (q786 G.2.2.2.2.1) dX10_leasts_14 f12 ?_
        refine g_sipush (pc := 17) G (v := 512) dX10_leasts_17 (by decide) ?_
        refine g_iload_n (pc := 20) G dX10_leasts_20 2 rfl ?_
        refine g_imul (pc := 21) G dX10_leasts_21 ?_
        obtain ⟨b14, h⟩ := gd_e h
        refine g_iald (pc := 22) G k13 b14 dX10_leasts_22 ?_
        refine g_if_ge (pc := 23) G 32 dX10_leasts_23 (by decide) (fun c15 => ?_) (fun c15 => ?_)
        · rw [if_pos c15] at h
          cases h
          exact g_sub [0, 1, 2] rfl K8
        · rw [if_neg c15] at h
          refine g_iinc (v := v4 + 1) (L' := [(2, .int (v4 + 1)), (0, rv b (some this)), (1, .int p1)]) (pc := 26) G dX10_leasts_26 2 rfl rfl (by decide) rfl ?_
          refine g_goto (pc := 29) G 7 dX10_leasts_29 (by decide) ?_
          exact g_sub [1, 2, 0] rfl (ih5 _ _ h K8)
  obtain ⟨y7, e16, h⟩ := bd_e h
  refine g_sub [1, 2, 0] rfl (LP6 _ _ _ e16 ?_)
  refine g_iload_n (pc := 32) G dX10_leasts_32 2 rfl ?_
  refine g_bipush (pc := 33) G (v := 10) dX10_leasts_33 (by decide) ?_
  refine g_icmp_ne (pc := 35) G 41 dX10_leasts_35 (by decide) (fun c17 => ?_) (fun c17 => ?_)
  · rw [if_neg c17] at h
    refine g_aload_n (pc := 41) G dX10_leasts_41 0 rfl ?_
    refine g_aload_n (pc := 42) G dX10_leasts_42 0 rfl ?_
    refine g_iload_n (pc := 43) G dX10_leasts_43 1 rfl ?_
    obtain ⟨r19, e18, h⟩ := bd_e h
    refine g_callV (pc := 44) (As := [.int p1]) (rest := [rv b (some this)]) (st2 := [.int r19, rv b (some this)]) G (c_Mo_long1 l D ca b k_this e18) (mb_Mo_long1 G.2.2.2.2.1) (q961 G.2.2.2.2.1) (q36 G.2.2.2.2.1) (q959 G.2.2.2.2.1) ci_9 k_this rfl rfl (Nat.le_of_ble_eq_true rfl) ⟨Nat.le_trans (Nat.le_of_ble_eq_true rfl) hR.1, Nat.le_trans (Nat.le_of_ble_eq_true rfl) hR.2⟩ ⟨Nat.zero_le _, Nat.zero_le _⟩ rfl rfl dX10_leasts_44 ?_
    refine g_aload_n (pc := 47) G dX10_leasts_47 0 rfl ?_
    obtain ⟨r20, e21, h⟩ := bd_e h
    obtain ⟨f22, k23⟩ := ck_e e21
    refine g_getR (pc := 48) G ci_9 (uw_9 G.2.2.2.2.1) (k := 12) (by decide) rfl rfl k_this (q786 G.2.2.2.2.1) dX10_leasts_48 f22 ?_
    refine g_sipush (pc := 51) G (v := 512) dX10_leasts_51 (by decide) ?_
    refine g_iload_n (pc := 54) G dX10_leasts_54 2 rfl ?_
    refine g_imul (pc := 55) G dX10_leasts_55 ?_
    obtain ⟨b24, h⟩ := gd_e h
    refine g_iald (pc := 56) G k23 b24 dX10_leasts_56 ?_
    refine g_isub (pc := 57) G dX10_leasts_57 ?_
    obtain ⟨V25, e26, h⟩ := lt_e h
    refine g_putI (pc := 58) G ci_9 (uw_9 G.2.2.2.2.1) (k := 14) (by decide) rfl rfl k_this rfl ⟨rfl, rfl⟩ (q788 G.2.2.2.2.1) e26 dX10_leasts_58 ?_
    refine g_iconst (pc := 61) G (v := 0) dX10_leasts_61 (by decide) ?_
    refine g_istore_n (L' := [(3, .int 0), (0, rv b (some this)), (1, .int p1), (2, .int y7)]) (pc := 62) G dX10_leasts_62 (by decide) rfl ?_
    refine g_iconst (pc := 63) G (v := 0) dX10_leasts_63 (by decide) ?_
    refine g_istore (L' := [(4, .int 0), (3, .int 0), (0, rv b (some this)), (1, .int p1), (2, .int y7)]) (pc := 64) G dX10_leasts_64 (by decide) rfl ?_
    have LP32 : ∀ (n27 : Nat) (V30 : Vx) (v28 : Int32) (v29 : Int32), Mo_leasts_L66 T this y7 n27 V30 v28 v29 = some (rr, Vf) → WG p l e R s m args below meth c D ca b 7 (QG D ca b (some (.int rr)) T Vf below args s 0 0) 0 0 T V30 66 [(0, rv b (some this)), (2, .int y7), (3, .int v28), (4, .int v29)] [] := by
      intro n27
      induction n27 with
      | zero =>
        intro V30 v28 v29 h
        cases h
      | succ n27 ih31 =>
        intro V30 v28 v29 h
        rw [Mo_leasts_L66] at h
        refine g_iload (pc := 66) G dX10_leasts_66 3 rfl ?_
        refine g_iload_n (pc := 68) G dX10_leasts_68 1 rfl ?_
        refine g_icmp_ge (pc := 69) G 212 dX10_leasts_69 (by decide) (fun c33 => ?_) (fun c33 => ?_)
        · rw [if_pos c33] at h
          refine g_iload_n (pc := 212) G dX10_leasts_212 1 rfl ?_
          cases h
          exact g_iret (pc := 213) G dX10_leasts_213
        · rw [if_neg c33] at h
          refine g_aload_n (pc := 72) G dX10_leasts_72 0 rfl ?_
          obtain ⟨r34, e35, h⟩ := bd_e h
          obtain ⟨f36, k37⟩ := ck_e e35
          refine g_getR (pc := 73) G ci_9 (uw_9 G.2.2.2.2.1) (k := 12) (by decide) rfl rfl k_this (q786 G.2.2.2.2.1) dX10_leasts_73 f36 ?_
          refine g_sipush (pc := 76) G (v := 512) dX10_leasts_76 (by decide) ?_
          refine g_iload_n (pc := 79) G dX10_leasts_79 1 rfl ?_
          refine g_iload (pc := 80) G dX10_leasts_80 3 rfl ?_
          refine g_isub (pc := 82) G dX10_leasts_82 ?_
          refine g_imul (pc := 83) G dX10_leasts_83 ?_
          refine g_iload_n (pc := 84) G dX10_leasts_84 2 rfl ?_
          refine g_iadd (pc := 85) G dX10_leasts_85 ?_
          obtain ⟨b38, h⟩ := gd_e h
          refine g_iald (pc := 86) G k37 b38 dX10_leasts_86 ?_
          obtain ⟨x39, e40, h⟩ := lt_e h
          rw [e40]
          refine g_istore (L' := [(5, .int x39), (0, rv b (some this)), (2, .int y7), (3, .int v28), (4, .int v29)]) (pc := 87) G dX10_leasts_87 (by decide) rfl ?_
          refine g_iconst (pc := 89) G (v := 0) dX10_leasts_89 (by decide) ?_
          refine g_istore (L' := [(6, .int 0), (5, .int x39), (0, rv b (some this)), (2, .int y7), (3, .int v28), (4, .int v29)]) (pc := 90) G dX10_leasts_90 (by decide) rfl ?_
          have LP44 : ∀ (n41 : Nat) (v42 : Int32) (y45 : Int32), Mo_leasts_L92 T V30 this y7 v28 v29 x39 n41 v42 = some (y45) → WG p l e R s m args below meth c D ca b 7 (QG D ca b (some (.int rr)) T Vf below args s 0 0) 0 0 T V30 184 [(0, rv b (some this)), (2, .int y7), (3, .int v28), (4, .int v29), (6, .int y45)] [] → WG p l e R s m args below meth c D ca b 7 (QG D ca b (some (.int rr)) T Vf below args s 0 0) 0 0 T V30 92 [(0, rv b (some this)), (2, .int y7), (3, .int v28), (4, .int v29), (5, .int x39), (6, .int v42)] [] := by
            intro n41
            induction n41 with
            | zero =>
              intro v42 y45 h
              cases h
            | succ n41 ih43 =>
              intro v42 y45 h K46
              rw [Mo_leasts_L92] at h
              refine g_aload_n (pc := 92) G dX10_leasts_92 0 rfl ?_
              obtain ⟨r47, e48, h⟩ := bd_e h
              obtain ⟨f49, k50⟩ := ck_e e48
              refine g_getR (pc := 93) G ci_9 (uw_9 G.2.2.2.2.1) (k := 10) (by decide) rfl rfl k_this (q784 G.2.2.2.2.1) dX10_leasts_93 f49 ?_
              refine g_bipush (pc := 96) G (v := 12) dX10_leasts_96 (by decide) ?_
              refine g_iload_n (pc := 98) G dX10_leasts_98 2 rfl ?_
              refine g_imul (pc := 99) G dX10_leasts_99 ?_
              refine g_iload (pc := 100) G dX10_leasts_100 5 rfl ?_
              refine g_iadd (pc := 102) G dX10_leasts_102 ?_
              obtain ⟨b51, h⟩ := gd_e h
              refine g_iald (pc := 103) G k50 b51 dX10_leasts_103 ?_
              refine g_if_lt (pc := 104) G 178 dX10_leasts_104 (by decide) (fun c52 => ?_) (fun c52 => ?_)
              · rw [if_pos c52] at h
                refine g_iinc (v := v42 + 1) (L' := [(6, .int (v42 + 1)), (0, rv b (some this)), (2, .int y7), (3, .int v28), (4, .int v29), (5, .int x39)]) (pc := 178) G dX10_leasts_178 5 rfl rfl (by decide) rfl ?_
                refine g_goto (pc := 181) G 92 dX10_leasts_181 (by decide) ?_
                exact g_sub [1, 2, 3, 4, 5, 0] rfl (ih43 _ _ h K46)
              · rw [if_neg c52] at h
                refine g_aload_n (pc := 107) G dX10_leasts_107 0 rfl ?_
                obtain ⟨r53, e54, h⟩ := bd_e h
                obtain ⟨f55, k56⟩ := ck_e e54
                refine g_getR (pc := 108) G ci_9 (uw_9 G.2.2.2.2.1) (k := 12) (by decide) rfl rfl k_this (q786 G.2.2.2.2.1) dX10_leasts_108 f55 ?_
                refine g_sipush (pc := 111) G (v := 512) dX10_leasts_111 (by decide) ?_
                refine g_iload_n (pc := 114) G dX10_leasts_114 1 rfl ?_
                refine g_iload (pc := 115) G dX10_leasts_115 3 rfl ?_
                refine g_isub (pc := 117) G dX10_leasts_117 ?_
                refine g_iconst (pc := 118) G (v := 1) dX10_leasts_118 (by decide) ?_
                refine g_isub (pc := 119) G dX10_leasts_119 ?_
                refine g_imul (pc := 120) G dX10_leasts_120 ?_
                refine g_aload_n (pc := 121) G dX10_leasts_121 0 rfl ?_
                obtain ⟨r57, e58, h⟩ := bd_e h
                obtain ⟨f59, k60⟩ := ck_e e58
                refine g_getR (pc := 122) G ci_9 (uw_9 G.2.2.2.2.1) (k := 10) (by decide) rfl rfl k_this (q784 G.2.2.2.2.1) dX10_leasts_122 f59 ?_
                refine g_bipush (pc := 125) G (v := 12) dX10_leasts_125 (by decide) ?_
                refine g_iload_n (pc := 127) G dX10_leasts_127 2 rfl ?_
                refine g_imul (pc := 128) G dX10_leasts_128 ?_
                refine g_iload (pc := 129) G dX10_leasts_129 5 rfl ?_
                refine g_iadd (pc := 131) G dX10_leasts_131 ?_
                obtain ⟨b61, h⟩ := gd_e h
                refine g_iald (pc := 132) G k60 b61 dX10_leasts_132 ?_
                refine g_iadd (pc := 133) G dX10_leasts_133 ?_
                obtain ⟨b62, h⟩ := gd_e h
                refine g_iald (pc := 134) G k56 b62 dX10_leasts_134 ?_
                refine g_if_lt (pc := 135) G 178 dX10_leasts_135 (by decide) (fun c63 => ?_) (fun c63 => ?_)
                · rw [if_pos c63] at h
                  refine g_iinc (v := v42 + 1) (L' := [(6, .int (v42 + 1)), (0, rv b (some this)), (2, .int y7), (3, .int v28), (4, .int v29), (5, .int x39)]) (pc := 178) G dX10_leasts_178 5 rfl rfl (by decide) rfl ?_
                  refine g_goto (pc := 181) G 92 dX10_leasts_181 (by decide) ?_
                  exact g_sub [1, 2, 3, 4, 5, 0] rfl (ih43 _ _ h K46)
                · rw [if_neg c63] at h
                  refine g_aload_n (pc := 138) G dX10_leasts_138 0 rfl ?_
                  obtain ⟨r64, e65, h⟩ := bd_e h
                  obtain ⟨f66, k67⟩ := ck_e e65
                  refine g_getR (pc := 139) G ci_9 (uw_9 G.2.2.2.2.1) (k := 12) (by decide) rfl rfl k_this (q786 G.2.2.2.2.1) dX10_leasts_139 f66 ?_
                  refine g_sipush (pc := 142) G (v := 512) dX10_leasts_142 (by decide) ?_
                  refine g_iload_n (pc := 145) G dX10_leasts_145 1 rfl ?_
                  refine g_iload (pc := 146) G dX10_leasts_146 3 rfl ?_
                  refine g_isub (pc := 148) G dX10_leasts_148 ?_
                  refine g_iconst (pc := 149) G (v := 1) dX10_leasts_149 (by decide) ?_
                  refine g_isub (pc := 150) G dX10_leasts_150 ?_
                  refine g_imul (pc := 151) G dX10_leasts_151 ?_
                  refine g_aload_n (pc := 152) G dX10_leasts_152 0 rfl ?_
                  obtain ⟨r68, e69, h⟩ := bd_e h
                  obtain ⟨f70, k71⟩ := ck_e e69
                  refine g_getR (pc := 153) G ci_9 (uw_9 G.2.2.2.2.1) (k := 10) (by decide) rfl rfl k_this (q784 G.2.2.2.2.1) dX10_leasts_153 f70 ?_
                  refine g_bipush (pc := 156) G (v := 12) dX10_leasts_156 (by decide) ?_
                  refine g_iload_n (pc := 158) G dX10_leasts_158 2 rfl ?_
                  refine g_imul (pc := 159) G dX10_leasts_159 ?_
                  refine g_iload (pc := 160) G dX10_leasts_160 5 rfl ?_
                  refine g_iadd (pc := 162) G dX10_leasts_162 ?_
                  obtain ⟨b72, h⟩ := gd_e h
                  refine g_iald (pc := 163) G k71 b72 dX10_leasts_163 ?_
                  refine g_iadd (pc := 164) G dX10_leasts_164 ?_
                  obtain ⟨b73, h⟩ := gd_e h
                  refine g_iald (pc := 165) G k67 b73 dX10_leasts_165 ?_
                  refine g_aload_n (pc := 166) G dX10_leasts_166 0 rfl ?_
                  refine g_iload (pc := 167) G dX10_leasts_167 5 rfl ?_
                  obtain ⟨r75, e74, h⟩ := bd_e h
                  refine g_callV (pc := 169) (As := [.int v42]) (rest := [.int (aI V30 r64 ((512 * ((y7 - v29) - 1)) + (aI V30 r68 ((12 * v28) + v42).toNatClampNeg)).toNatClampNeg)]) (st2 := [.int r75, .int (aI V30 r64 ((512 * ((y7 - v29) - 1)) + (aI V30 r68 ((12 * v28) + v42).toNatClampNeg)).toNatClampNeg)]) G (c_Mo_soundLong l D ca b k_this e74) (mb_Mo_soundLong G.2.2.2.2.1) (q977 G.2.2.2.2.1) (q40 G.2.2.2.2.1) (q975 G.2.2.2.2.1) ci_9 k_this rfl rfl (Nat.le_of_ble_eq_true rfl) ⟨Nat.le_trans (Nat.le_of_ble_eq_true rfl) hR.1, Nat.le_trans (Nat.le_of_ble_eq_true rfl) hR.2⟩ ⟨Nat.zero_le _, Nat.zero_le _⟩ rfl rfl dX10_leasts_169 ?_
                  refine g_iadd (pc := 172) G dX10_leasts_172 ?_
                  refine g_iload (pc := 173) G dX10_leasts_173 4 rfl ?_
                  refine g_icmp_eq (pc := 175) G 184 dX10_leasts_175 (by decide) (fun c76 => ?_) (fun c76 => ?_)
                  · rw [if_pos c76] at h
                    cases h
                    exact g_sub [0, 1, 2, 3, 5] rfl K46
                  · rw [if_neg c76] at h
                    refine g_iinc (v := v42 + 1) (L' := [(6, .int (v42 + 1)), (0, rv b (some this)), (2, .int y7), (3, .int v28), (4, .int v29), (5, .int x39)]) (pc := 178) G dX10_leasts_178 5 rfl rfl (by decide) rfl ?_
                    refine g_goto (pc := 181) G 92 dX10_leasts_181 (by decide) ?_
                    exact g_sub [1, 2, 3, 4, 5, 0] rfl (ih43 _ _ h K46)
          obtain ⟨y45, e77, h⟩ := bd_e h
          refine g_sub [2, 3, 4, 5, 1, 0] rfl (LP44 _ _ _ e77 ?_)
          refine g_aload_n (pc := 184) G dX10_leasts_184 0 rfl ?_
          obtain ⟨r78, e79, h⟩ := bd_e h
          obtain ⟨f80, k81⟩ := ck_e e79
          refine g_getR (pc := 185) G ci_9 (uw_9 G.2.2.2.2.1) (k := 13) (by decide) rfl rfl k_this (q787 G.2.2.2.2.1) dX10_leasts_185 f80 ?_
          refine g_iload (pc := 188) G dX10_leasts_188 3 rfl ?_
          refine g_iload (pc := 190) G dX10_leasts_190 4 rfl ?_
          obtain ⟨b82, h⟩ := gd_e h
          obtain ⟨V83, e84, h⟩ := lt_e h
          refine g_iast (pc := 192) G k81 b82 e84 dX10_leasts_192 ?_
          refine g_aload_n (pc := 193) G dX10_leasts_193 0 rfl ?_
          obtain ⟨r85, e86, h⟩ := bd_e h
          obtain ⟨f87, k88⟩ := ck_e e86
          refine g_getR (pc := 194) G ci_9 (uw_9 G.2.2.2.2.1) (k := 10) (by decide) rfl rfl k_this (q784 G.2.2.2.2.1) dX10_leasts_194 f87 ?_
          refine g_bipush (pc := 197) G (v := 12) dX10_leasts_197 (by decide) ?_
          refine g_iload_n (pc := 199) G dX10_leasts_199 2 rfl ?_
          refine g_imul (pc := 200) G dX10_leasts_200 ?_
          refine g_iload (pc := 201) G dX10_leasts_201 4 rfl ?_
          refine g_iadd (pc := 203) G dX10_leasts_203 ?_
          obtain ⟨b89, h⟩ := gd_e h
          refine g_iald (pc := 204) G k88 b89 dX10_leasts_204 ?_
          obtain ⟨x90, e91, h⟩ := lt_e h
          rw [e91]
          refine g_istore_n (L' := [(3, .int x90), (0, rv b (some this)), (2, .int y7), (4, .int v29), (6, .int y45)]) (pc := 205) G dX10_leasts_205 (by decide) rfl ?_
          refine g_iinc (v := v29 + 1) (L' := [(4, .int (v29 + 1)), (3, .int x90), (0, rv b (some this)), (2, .int y7), (6, .int y45)]) (pc := 206) G dX10_leasts_206 3 rfl rfl (by decide) rfl ?_
          refine g_goto (pc := 209) G 66 dX10_leasts_209 (by decide) ?_
          exact g_sub [2, 3, 1, 0] rfl (ih31 _ _ _ h)
    exact g_sub [2, 4, 1, 0] rfl (LP32 _ _ _ _ h)
  · rw [if_pos c17] at h
    refine g_bipush (pc := 38) G (v := (-4)) dX10_leasts_38 (by decide) ?_
    cases h
    exact g_iret (pc := 40) G dX10_leasts_40
theorem c_Mo_leasts (l : Launch) (D : va_G) (ca : Nat → ClassId) (b : Nat) {T : Tx} {V : Vx} {this : Nat} {p1 : Int32} {rr : Int32} {Vf : Vx} (k_this : kd T this = 9) (h : Mo_leasts T V this p1 = some (rr, Vf)) : MG l yX10_leasts cX10_leasts 7 (Option.some Jvm.ClassFile.FieldType.int) 6 146 0 0 D ca b [rv b (some this), .int p1] T V (some (.int rr)) T Vf :=
  MG.ofWG (L := [(0, rv b (some this)), (1, .int p1)]) (by decide +kernel) rfl (Nat.le_of_ble_eq_true rfl) (fun _ _ _ _ _ _ _ G _ => w_Mo_leasts G ⟨Nat.le_refl _, Nat.le_refl _⟩ k_this h)
set_option maxHeartbeats 4000000 in
set_option maxRecDepth 100000 in
theorem w_Mo_markOf {p : Program} {l : Launch} {e : Env} {R : Room} {s : State} {m : MethodId} {args : Array Value} {below : List Frame} {meth : Method} {c : Code} {D : va_G} {ca : Nat → ClassId} {b : Nat} {T : Tx} {V : Vx} (G : GX p s m meth c cX10_markOf 3 (Option.some Jvm.ClassFile.FieldType.int) RX10 "markOf" D ca b) (hR : 1 ≤ R.frames ∧ 21 ≤ R.locals) {this : Nat} {p1 : Int32} {rr : Int32}  (k_this : kd T this = 9) (h : Mo_markOf T V this p1 = some rr) : WG p l e R s m args below meth c D ca b 3 (QG D ca b (some (.int rr)) T V below args s 0 0) 0 0 T V 0 [(0, rv b (some this)), (1, .int p1)] [] := by
  unfold Mo_markOf at h
  refine g_iconst (pc := 0) G (v := 0) dX10_markOf_0 (by decide) ?_
  refine g_istore_n (L' := [(2, .int 0), (0, rv b (some this)), (1, .int p1)]) (pc := 1) G dX10_markOf_1 (by decide) rfl ?_
  have LP4 : ∀ (n1 : Nat) (v2 : Int32), Mo_markOf_L2 T V this p1 n1 v2 = some rr → WG p l e R s m args below meth c D ca b 3 (QG D ca b (some (.int rr)) T V below args s 0 0) 0 0 T V 2 [(0, rv b (some this)), (1, .int p1), (2, .int v2)] [] := by
    intro n1
    induction n1 with
    | zero =>
      intro v2 h
      cases h
    | succ n1 ih3 =>
      intro v2 h
      rw [Mo_markOf_L2] at h
      refine g_iload_n (pc := 2) G dX10_markOf_2 2 rfl ?_
      refine g_aload_n (pc := 3) G dX10_markOf_3 0 rfl ?_
      obtain ⟨r5, e6, h⟩ := bd_e h
      obtain ⟨f7, k8⟩ := ck_e e6
      refine g_getR (pc := 4) G ci_9 (uw_9 G.2.2.2.2.1) (k := 3) (by decide) rfl rfl k_this (q777 G.2.2.2.2.1) dX10_markOf_4 f7 ?_
      refine g_sipush (pc := 7) G (v := 164) dX10_markOf_7 (by decide) ?_
      obtain ⟨b9, h⟩ := gd_e h
      refine g_iald (pc := 10) G k8 b9 dX10_markOf_10 ?_
      refine g_icmp_ge (pc := 11) G 58 dX10_markOf_11 (by decide) (fun c10 => ?_) (fun c10 => ?_)
      · rw [if_pos c10] at h
        refine g_bipush (pc := 58) G (v := (-4)) dX10_markOf_58 (by decide) ?_
        cases h
        exact g_iret (pc := 60) G dX10_markOf_60
      · rw [if_neg c10] at h
        refine g_aload_n (pc := 14) G dX10_markOf_14 0 rfl ?_
        obtain ⟨r11, e12, h⟩ := bd_e h
        obtain ⟨f13, k14⟩ := ck_e e12
        refine g_getR (pc := 15) G ci_9 (uw_9 G.2.2.2.2.1) (k := 3) (by decide) rfl rfl k_this (q777 G.2.2.2.2.1) dX10_markOf_15 f13 ?_
        refine g_bipush (pc := 18) G (v := 7) dX10_markOf_18 (by decide) ?_
        refine g_iload_n (pc := 20) G dX10_markOf_20 2 rfl ?_
        refine g_imul (pc := 21) G dX10_markOf_21 ?_
        obtain ⟨b15, h⟩ := gd_e h
        refine g_iald (pc := 22) G k14 b15 dX10_markOf_22 ?_
        refine g_iconst (pc := 23) G (v := 2) dX10_markOf_23 (by decide) ?_
        refine g_icmp_ne (pc := 24) G 52 dX10_markOf_24 (by decide) (fun c16 => ?_) (fun c16 => ?_)
        · rw [if_neg c16] at h
          refine g_iinc (v := v2 + 1) (L' := [(2, .int (v2 + 1)), (0, rv b (some this)), (1, .int p1)]) (pc := 52) G dX10_markOf_52 2 rfl rfl (by decide) rfl ?_
          refine g_goto (pc := 55) G 2 dX10_markOf_55 (by decide) ?_
          exact g_sub [1, 2, 0] rfl (ih3 _ h)
        · rw [if_pos c16] at h
          refine g_aload_n (pc := 27) G dX10_markOf_27 0 rfl ?_
          obtain ⟨r17, e18, h⟩ := bd_e h
          obtain ⟨f19, k20⟩ := ck_e e18
          refine g_getR (pc := 28) G ci_9 (uw_9 G.2.2.2.2.1) (k := 3) (by decide) rfl rfl k_this (q777 G.2.2.2.2.1) dX10_markOf_28 f19 ?_
          refine g_bipush (pc := 31) G (v := 7) dX10_markOf_31 (by decide) ?_
          refine g_iload_n (pc := 33) G dX10_markOf_33 2 rfl ?_
          refine g_imul (pc := 34) G dX10_markOf_34 ?_
          refine g_iconst (pc := 35) G (v := 1) dX10_markOf_35 (by decide) ?_
          refine g_iadd (pc := 36) G dX10_markOf_36 ?_
          obtain ⟨b21, h⟩ := gd_e h
          refine g_iald (pc := 37) G k20 b21 dX10_markOf_37 ?_
          refine g_iload_n (pc := 38) G dX10_markOf_38 1 rfl ?_
          refine g_icmp_ne (pc := 39) G 52 dX10_markOf_39 (by decide) (fun c22 => ?_) (fun c22 => ?_)
          · rw [if_neg c22] at h
            refine g_iinc (v := v2 + 1) (L' := [(2, .int (v2 + 1)), (0, rv b (some this)), (1, .int p1)]) (pc := 52) G dX10_markOf_52 2 rfl rfl (by decide) rfl ?_
            refine g_goto (pc := 55) G 2 dX10_markOf_55 (by decide) ?_
            exact g_sub [1, 2, 0] rfl (ih3 _ h)
          · rw [if_pos c22] at h
            refine g_aload_n (pc := 42) G dX10_markOf_42 0 rfl ?_
            refine g_iload_n (pc := 43) G dX10_markOf_43 2 rfl ?_
            obtain ⟨r24, e23, h⟩ := bd_e h
            refine g_callV (pc := 44) (As := [.int v2]) (rest := []) (st2 := [.int r24]) G (c_Mo_isStruck l D ca b k_this e23) (mb_Mo_isStruck G.2.2.2.2.1) (q901 G.2.2.2.2.1) (q26 G.2.2.2.2.1) (q899 G.2.2.2.2.1) ci_9 k_this rfl rfl (Nat.le_of_ble_eq_true rfl) ⟨Nat.le_trans (Nat.le_of_ble_eq_true rfl) hR.1, Nat.le_trans (Nat.le_of_ble_eq_true rfl) hR.2⟩ ⟨Nat.zero_le _, Nat.zero_le _⟩ rfl rfl dX10_markOf_44 ?_
            refine g_if_ne (pc := 47) G 52 dX10_markOf_47 (by decide) (fun c25 => ?_) (fun c25 => ?_)
            · rw [if_neg c25] at h
              refine g_iinc (v := v2 + 1) (L' := [(2, .int (v2 + 1)), (0, rv b (some this)), (1, .int p1)]) (pc := 52) G dX10_markOf_52 2 rfl rfl (by decide) rfl ?_
              refine g_goto (pc := 55) G 2 dX10_markOf_55 (by decide) ?_
              exact g_sub [1, 2, 0] rfl (ih3 _ h)
            · rw [if_pos c25] at h
              refine g_iload_n (pc := 50) G dX10_markOf_50 2 rfl ?_
              cases h
              exact g_iret (pc := 51) G dX10_markOf_51
  exact g_sub [1, 2, 0] rfl (LP4 _ _ h)
theorem c_Mo_markOf (l : Launch) (D : va_G) (ca : Nat → ClassId) (b : Nat) {T : Tx} {V : Vx} {this : Nat} {p1 : Int32} {rr : Int32}  (k_this : kd T this = 9) (h : Mo_markOf T V this p1 = some rr) : MG l yX10_markOf cX10_markOf 3 (Option.some Jvm.ClassFile.FieldType.int) 1 21 0 0 D ca b [rv b (some this), .int p1] T V (some (.int rr)) T V :=
  MG.ofWG (L := [(0, rv b (some this)), (1, .int p1)]) (by decide +kernel) rfl (Nat.le_of_ble_eq_true rfl) (fun _ _ _ _ _ _ _ G _ => w_Mo_markOf G ⟨Nat.le_refl _, Nat.le_refl _⟩ k_this h)
set_option maxHeartbeats 4000000 in
set_option maxRecDepth 100000 in
theorem w_Mo_clear {p : Program} {l : Launch} {e : Env} {R : Room} {s : State} {m : MethodId} {args : Array Value} {below : List Frame} {meth : Method} {c : Code} {D : va_G} {ca : Nat → ClassId} {b : Nat} {T : Tx} {V : Vx} (G : GX p s m meth c cX10_clear 4 (Option.some Jvm.ClassFile.FieldType.int) RX10 "clear" D ca b) (hR : 7 ≤ R.frames ∧ 172 ≤ R.locals) {this : Nat} {p1 : Int32} {rr : Int32} {Vf : Vx} (k_this : kd T this = 9) (h : Mo_clear T V this p1 = some (rr, Vf)) : WG p l e R s m args below meth c D ca b 4 (QG D ca b (some (.int rr)) T Vf below args s 0 0) 0 0 T V 0 [(0, rv b (some this)), (1, .int p1)] [] := by
  unfold Mo_clear at h
  refine g_aload_n (pc := 0) G dX10_clear_0 0 rfl ?_
  refine g_iload_n (pc := 1) G dX10_clear_1 1 rfl ?_
  obtain ⟨r3, V2, e1, h⟩ := bd2_e h
  refine g_callV (pc := 2) (As := [.int p1]) (rest := []) (st2 := [.int r3]) G (c_Mo_leasts l D ca b k_this e1) (mb_Mo_leasts G.2.2.2.2.1) (q933 G.2.2.2.2.1) (q29 G.2.2.2.2.1) (q931 G.2.2.2.2.1) ci_9 k_this rfl rfl (Nat.le_of_ble_eq_true rfl) ⟨Nat.le_trans (Nat.le_of_ble_eq_true rfl) hR.1, Nat.le_trans (Nat.le_of_ble_eq_true rfl) hR.2⟩ ⟨Nat.zero_le _, Nat.zero_le _⟩ rfl rfl dX10_clear_2 ?_
  refine g_istore_n (L' := [(2, .int r3), (0, rv b (some this)), (1, .int p1)]) (pc := 5) G dX10_clear_5 (by decide) rfl ?_
  refine g_iload_n (pc := 6) G dX10_clear_6 0 rfl ?_
  refine g_bipush (pc := 7) G (v := (-4)) dX10_clear_7 (by decide) ?_
  refine g_icmp_ne (pc := 9) G 14 dX10_clear_9 (by decide) (fun c4 => ?_) (fun c4 => ?_)
  · rw [if_neg c4] at h
    refine g_aload_n (pc := 14) G dX10_clear_14 1 rfl ?_
    refine g_aload_n (pc := 15) G dX10_clear_15 1 rfl ?_
    obtain ⟨r5, e6, h⟩ := bd_e h
    obtain ⟨f7, k8⟩ := ck_e e6
    refine g_getR (pc := 16) G ci_9 (uw_9 G.2.2.2.2.1) (k := 13) (by decide) rfl rfl k_this (q787 G.2.2.2.2.1) dX10_clear_16 f7 ?_
    refine g_iconst (pc := 19) G (v := 0) dX10_clear_19 (by decide) ?_
    refine g_iload_n (pc := 20) G dX10_clear_20 0 rfl ?_
    obtain ⟨r10, e9, h⟩ := bd_e h
    refine g_callV (pc := 21) (As := [rv b (some r5), .int 0, .int r3]) (rest := []) (st2 := [.int r10]) G (c_Mo_reads l D ca b k_this k8 e9) (mb_Mo_reads G.2.2.2.2.1) (q997 G.2.2.2.2.1) (q44 G.2.2.2.2.1) (q995 G.2.2.2.2.1) ci_9 k_this rfl rfl (Nat.le_of_ble_eq_true rfl) ⟨Nat.le_trans (Nat.le_of_ble_eq_true rfl) hR.1, Nat.le_trans (Nat.le_of_ble_eq_true rfl) hR.2⟩ ⟨Nat.zero_le _, Nat.zero_le _⟩ rfl rfl dX10_clear_21 ?_
    refine g_iconst (pc := 24) G (v := 1) dX10_clear_24 (by decide) ?_
    refine g_iload_n (pc := 25) G dX10_clear_25 2 rfl ?_
    refine g_ishl (pc := 26) G dX10_clear_26 ?_
    refine g_icmp_ne (pc := 27) G 32 dX10_clear_27 (by decide) (fun c11 => ?_) (fun c11 => ?_)
    · rw [if_neg c11] at h
      refine g_aload_n (pc := 32) G dX10_clear_32 1 rfl ?_
      refine g_aload_n (pc := 33) G dX10_clear_33 1 rfl ?_
      obtain ⟨r12, e13, h⟩ := bd_e h
      obtain ⟨f14, k15⟩ := ck_e e13
      refine g_getR (pc := 34) G ci_9 (uw_9 G.2.2.2.2.1) (k := 3) (by decide) rfl rfl k_this (q777 G.2.2.2.2.1) dX10_clear_34 f14 ?_
      refine g_bipush (pc := 37) G (v := 84) dX10_clear_37 (by decide) ?_
      refine g_bipush (pc := 39) G (v := 10) dX10_clear_39 (by decide) ?_
      refine g_iload_n (pc := 41) G dX10_clear_41 2 rfl ?_
      refine g_imul (pc := 42) G dX10_clear_42 ?_
      refine g_iadd (pc := 43) G dX10_clear_43 ?_
      obtain ⟨b16, h⟩ := gd_e h
      refine g_iald (pc := 44) G k15 b16 dX10_clear_44 ?_
      obtain ⟨r18, e17, h⟩ := bd_e h
      refine g_callV (pc := 45) (As := [.int (aI V2 r12 (84 + (10 * p1)).toNatClampNeg)]) (rest := []) (st2 := [.int r18]) G (c_Mo_markOf l D ca b k_this e17) (mb_Mo_markOf G.2.2.2.2.1) (q1005 G.2.2.2.2.1) (q46 G.2.2.2.2.1) (q1003 G.2.2.2.2.1) ci_9 k_this rfl rfl (Nat.le_of_ble_eq_true rfl) ⟨Nat.le_trans (Nat.le_of_ble_eq_true rfl) hR.1, Nat.le_trans (Nat.le_of_ble_eq_true rfl) hR.2⟩ ⟨Nat.zero_le _, Nat.zero_le _⟩ rfl rfl dX10_clear_45 ?_
      refine g_istore_n (L' := [(3, .int r18), (2, .int r3), (0, rv b (some this)), (1, .int p1)]) (pc := 48) G dX10_clear_48 (by decide) rfl ?_
      refine g_iload_n (pc := 49) G dX10_clear_49 0 rfl ?_
      refine g_bipush (pc := 50) G (v := (-4)) dX10_clear_50 (by decide) ?_
      refine g_icmp_eq (pc := 52) G 61 dX10_clear_52 (by decide) (fun c19 => ?_) (fun c19 => ?_)
      · rw [if_pos c19] at h
        refine g_iconst (pc := 61) G (v := 0) dX10_clear_61 (by decide) ?_
        cases h
        exact g_iret (pc := 62) G dX10_clear_62
      · rw [if_neg c19] at h
        refine g_iload_n (pc := 55) G dX10_clear_55 1 rfl ?_
        refine g_bipush (pc := 56) G (v := 9) dX10_clear_56 (by decide) ?_
        refine g_icmp_ne (pc := 58) G 63 dX10_clear_58 (by decide) (fun c20 => ?_) (fun c20 => ?_)
        · rw [if_neg c20] at h
          refine g_aload_n (pc := 63) G dX10_clear_63 2 rfl ?_
          obtain ⟨r21, e22, h⟩ := bd_e h
          obtain ⟨f23, k24⟩ := ck_e e22
          refine g_getR (pc := 64) G ci_9 (uw_9 G.2.2.2.2.1) (k := 13) (by decide) rfl rfl k_this (q787 G.2.2.2.2.1) dX10_clear_64 f23 ?_
          refine g_iload_n (pc := 67) G dX10_clear_67 1 rfl ?_
          refine g_iload_n (pc := 68) G dX10_clear_68 0 rfl ?_
          obtain ⟨b25, h⟩ := gd_e h
          obtain ⟨V26, e27, h⟩ := lt_e h
          refine g_iast (pc := 69) G k24 b25 e27 dX10_clear_69 ?_
          refine g_aload_n (pc := 70) G dX10_clear_70 2 rfl ?_
          refine g_aload_n (pc := 71) G dX10_clear_71 2 rfl ?_
          obtain ⟨r28, e29, h⟩ := bd_e h
          obtain ⟨f30, k31⟩ := ck_e e29
          refine g_getR (pc := 72) G ci_9 (uw_9 G.2.2.2.2.1) (k := 13) (by decide) rfl rfl k_this (q787 G.2.2.2.2.1) dX10_clear_72 f30 ?_
          refine g_iconst (pc := 75) G (v := 0) dX10_clear_75 (by decide) ?_
          refine g_iload_n (pc := 76) G dX10_clear_76 1 rfl ?_
          refine g_iconst (pc := 77) G (v := 1) dX10_clear_77 (by decide) ?_
          refine g_iadd (pc := 78) G dX10_clear_78 ?_
          obtain ⟨r33, e32, h⟩ := bd_e h
          refine g_callV (pc := 79) (As := [rv b (some r28), .int 0, .int (r3 + 1)]) (rest := []) (st2 := [.int r33]) G (c_Mo_reads l D ca b k_this k31 e32) (mb_Mo_reads G.2.2.2.2.1) (q997 G.2.2.2.2.1) (q44 G.2.2.2.2.1) (q995 G.2.2.2.2.1) ci_9 k_this rfl rfl (Nat.le_of_ble_eq_true rfl) ⟨Nat.le_trans (Nat.le_of_ble_eq_true rfl) hR.1, Nat.le_trans (Nat.le_of_ble_eq_true rfl) hR.2⟩ ⟨Nat.zero_le _, Nat.zero_le _⟩ rfl rfl dX10_clear_79 ?_
          refine g_iconst (pc := 82) G (v := 1) dX10_clear_82 (by decide) ?_
          refine g_iload_n (pc := 83) G dX10_clear_83 3 rfl ?_
          refine g_ishl (pc := 84) G dX10_clear_84 ?_
          refine g_icmp_ne (pc := 85) G 92 dX10_clear_85 (by decide) (fun c34 => ?_) (fun c34 => ?_)
          · rw [if_neg c34] at h
            refine g_iconst (pc := 92) G (v := 0) dX10_clear_92 (by decide) ?_
            cases h
            exact g_iret (pc := 93) G dX10_clear_93
          · rw [if_pos c34] at h
            refine g_iconst (pc := 88) G (v := 2) dX10_clear_88 (by decide) ?_
            refine g_goto (pc := 89) G 93 dX10_clear_89 (by decide) ?_
            cases h
            exact g_iret (pc := 93) G dX10_clear_93
        · rw [if_pos c20] at h
          refine g_iconst (pc := 61) G (v := 0) dX10_clear_61 (by decide) ?_
          cases h
          exact g_iret (pc := 62) G dX10_clear_62
    · rw [if_pos c11] at h
      refine g_iconst (pc := 30) G (v := 1) dX10_clear_30 (by decide) ?_
      cases h
      exact g_iret (pc := 31) G dX10_clear_31
  · rw [if_pos c4] at h
    refine g_iconst (pc := 12) G (v := 0) dX10_clear_12 (by decide) ?_
    cases h
    exact g_iret (pc := 13) G dX10_clear_13
theorem c_Mo_clear (l : Launch) (D : va_G) (ca : Nat → ClassId) (b : Nat) {T : Tx} {V : Vx} {this : Nat} {p1 : Int32} {rr : Int32} {Vf : Vx} (k_this : kd T this = 9) (h : Mo_clear T V this p1 = some (rr, Vf)) : MG l yX10_clear cX10_clear 4 (Option.some Jvm.ClassFile.FieldType.int) 7 172 0 0 D ca b [rv b (some this), .int p1] T V (some (.int rr)) T Vf :=
  MG.ofWG (L := [(0, rv b (some this)), (1, .int p1)]) (by decide +kernel) rfl (Nat.le_of_ble_eq_true rfl) (fun _ _ _ _ _ _ _ G _ => w_Mo_clear G ⟨Nat.le_refl _, Nat.le_refl _⟩ k_this h)
set_option maxHeartbeats 4000000 in
set_option maxRecDepth 100000 in
theorem w_Mo_areMixed {p : Program} {l : Launch} {e : Env} {R : Room} {s : State} {m : MethodId} {args : Array Value} {below : List Frame} {meth : Method} {c : Code} {D : va_G} {ca : Nat → ClassId} {b : Nat} {T : Tx} {V : Vx} (G : GX p s m meth c cX10_areMixed 7 (Option.some Jvm.ClassFile.FieldType.boolean) RX10 "areMixed" D ca b) (hR : 7 ≤ R.frames ∧ 172 ≤ R.locals) {this : Nat} {p1 : Int32} {p2 : Int32} {rr : Int32} {Vf : Vx} (k_this : kd T this = 9) (h : Mo_areMixed T V this p1 p2 = some (rr, Vf)) : WG p l e R s m args below meth c D ca b 7 (QG D ca b (some (.int rr)) T Vf below args s 0 0) 0 0 T V 0 [(0, rv b (some this)), (1, .int p1), (2, .int p2)] [] := by
  unfold Mo_areMixed at h
  refine g_aload_n (pc := 0) G dX10_areMixed_0 0 rfl ?_
  refine g_iload_n (pc := 1) G dX10_areMixed_1 1 rfl ?_
  obtain ⟨r3, V2, e1, h⟩ := bd2_e h
  refine g_callV (pc := 2) (As := [.int p1]) (rest := []) (st2 := [.int r3]) G (c_Mo_leasts l D ca b k_this e1) (mb_Mo_leasts G.2.2.2.2.1) (q933 G.2.2.2.2.1) (q29 G.2.2.2.2.1) (q931 G.2.2.2.2.1) ci_9 k_this rfl rfl (Nat.le_of_ble_eq_true rfl) ⟨Nat.le_trans (Nat.le_of_ble_eq_true rfl) hR.1, Nat.le_trans (Nat.le_of_ble_eq_true rfl) hR.2⟩ ⟨Nat.zero_le _, Nat.zero_le _⟩ rfl rfl dX10_areMixed_2 ?_
  refine g_istore_n (L' := [(3, .int r3), (0, rv b (some this)), (1, .int p1), (2, .int p2)]) (pc := 5) G dX10_areMixed_5 (by decide) rfl ?_
  refine g_iconst (pc := 6) G (v := 0) dX10_areMixed_6 (by decide) ?_
  refine g_istore (L' := [(4, .int 0), (3, .int r3), (0, rv b (some this)), (1, .int p1), (2, .int p2)]) (pc := 7) G dX10_areMixed_7 (by decide) rfl ?_
  have LP8 : ∀ (n4 : Nat) (V6 : Vx) (v5 : Int32) (V9 : Vx), Mo_areMixed_L9 T this p2 r3 n4 V6 v5 = some (V9) → WG p l e R s m args below meth c D ca b 7 (QG D ca b (some (.int rr)) T Vf below args s 0 0) 0 0 T V9 36 [(0, rv b (some this)), (2, .int p2), (3, .int r3)] [] → WG p l e R s m args below meth c D ca b 7 (QG D ca b (some (.int rr)) T Vf below args s 0 0) 0 0 T V6 9 [(0, rv b (some this)), (2, .int p2), (3, .int r3), (4, .int v5)] [] := by
    intro n4
    induction n4 with
    | zero =>
      intro V6 v5 V9 h
      cases h
    | succ n4 ih7 =>
      intro V6 v5 V9 h K10
      rw [Mo_areMixed_L9] at h
      refine g_iload (pc := 9) G dX10_areMixed_9 3 rfl ?_
      refine g_bipush (pc := 11) G (v := 10) dX10_areMixed_11 (by decide) ?_
      refine g_icmp_ge (pc := 13) G 36 dX10_areMixed_13 (by decide) (fun c11 => ?_) (fun c11 => ?_)
      · rw [if_pos c11] at h
        cases h
        exact g_sub [0, 1, 2] rfl K10
      · rw [if_neg c11] at h
        refine g_aload_n (pc := 16) G dX10_areMixed_16 0 rfl ?_
        obtain ⟨r12, e13, h⟩ := bd_e h
        obtain ⟨f14, k15⟩ := ck_e e13
        refine g_getR (pc := 17) G ci_9 (uw_9 G.2.2.2.2.1) (k := 15) (by decide) rfl rfl k_this (q789 G.2.2.2.2.1) dX10_areMixed_17 f14 ?_
        refine g_iload (pc := 20) G dX10_areMixed_20 3 rfl ?_
        refine g_aload_n (pc := 22) G dX10_areMixed_22 0 rfl ?_
        obtain ⟨r16, e17, h⟩ := bd_e h
        obtain ⟨f18, k19⟩ := ck_e e17
        refine g_getR (pc := 23) G ci_9 (uw_9 G.2.2.2.2.1) (k := 13) (by decide) rfl rfl k_this (q787 G.2.2.2.2.1) dX10_areMixed_23 f18 ?_
        refine g_iload (pc := 26) G dX10_areMixed_26 3 rfl ?_
        obtain ⟨b20, h⟩ := gd_e h
        refine g_iald (pc := 28) G k19 b20 dX10_areMixed_28 ?_
        obtain ⟨b21, h⟩ := gd_e h
        obtain ⟨V22, e23, h⟩ := lt_e h
        refine g_iast (pc := 29) G k15 b21 e23 dX10_areMixed_29 ?_
        refine g_iinc (v := v5 + 1) (L' := [(4, .int (v5 + 1)), (0, rv b (some this)), (2, .int p2), (3, .int r3)]) (pc := 30) G dX10_areMixed_30 3 rfl rfl (by decide) rfl ?_
        refine g_goto (pc := 33) G 9 dX10_areMixed_33 (by decide) ?_
        exact g_sub [1, 2, 3, 0] rfl (ih7 _ _ _ h K10)
  obtain ⟨V9, e24, h⟩ := bd_e h
  refine g_sub [2, 4, 1, 0] rfl (LP8 _ _ _ _ e24 ?_)
  refine g_aload_n (pc := 36) G dX10_areMixed_36 0 rfl ?_
  refine g_iload_n (pc := 37) G dX10_areMixed_37 1 rfl ?_
  obtain ⟨r27, V26, e25, h⟩ := bd2_e h
  refine g_callV (pc := 38) (As := [.int p2]) (rest := []) (st2 := [.int r27]) G (c_Mo_leasts l D ca b k_this e25) (mb_Mo_leasts G.2.2.2.2.1) (q933 G.2.2.2.2.1) (q29 G.2.2.2.2.1) (q931 G.2.2.2.2.1) ci_9 k_this rfl rfl (Nat.le_of_ble_eq_true rfl) ⟨Nat.le_trans (Nat.le_of_ble_eq_true rfl) hR.1, Nat.le_trans (Nat.le_of_ble_eq_true rfl) hR.2⟩ ⟨Nat.zero_le _, Nat.zero_le _⟩ rfl rfl dX10_areMixed_38 ?_
  refine g_istore (L' := [(4, .int r27), (0, rv b (some this)), (2, .int p2), (3, .int r3)]) (pc := 41) G dX10_areMixed_41 (by decide) rfl ?_
  refine g_iload_n (pc := 43) G dX10_areMixed_43 3 rfl ?_
  refine g_bipush (pc := 44) G (v := (-4)) dX10_areMixed_44 (by decide) ?_
  obtain ⟨x28, hx30, h⟩ := bd_e h
  have K29 : WG p l e R s m args below meth c D ca b 7 (QG D ca b (some (.int rr)) T Vf below args s 0 0) 0 0 T V26 60 [(0, rv b (some this)), (3, .int r3)] [.int x28] := by
    refine g_istore (L' := [(5, .int x28), (0, rv b (some this)), (3, .int r3)]) (pc := 60) G dX10_areMixed_60 (by decide) rfl ?_
    refine g_iconst (pc := 62) G (v := 0) dX10_areMixed_62 (by decide) ?_
    refine g_istore (L' := [(6, .int 0), (5, .int x28), (0, rv b (some this)), (3, .int r3)]) (pc := 63) G dX10_areMixed_63 (by decide) rfl ?_
    have LP38 : ∀ (n34 : Nat) (v35 : Int32) (v36 : Int32), Mo_areMixed_L65 T V26 this r3 n34 v35 v36 = some (rr, Vf) → WG p l e R s m args below meth c D ca b 7 (QG D ca b (some (.int rr)) T Vf below args s 0 0) 0 0 T V26 65 [(0, rv b (some this)), (3, .int r3), (5, .int v35), (6, .int v36)] [] := by
      intro n34
      induction n34 with
      | zero =>
        intro v35 v36 h
        cases h
      | succ n34 ih37 =>
        intro v35 v36 h
        rw [Mo_areMixed_L65] at h
        refine g_iload (pc := 65) G dX10_areMixed_65 3 rfl ?_
        refine g_iload_n (pc := 67) G dX10_areMixed_67 1 rfl ?_
        refine g_icmp_ge (pc := 68) G 106 dX10_areMixed_68 (by decide) (fun c39 => ?_) (fun c39 => ?_)
        · rw [if_pos c39] at h
          refine g_iload (pc := 106) G dX10_areMixed_106 2 rfl ?_
          obtain ⟨z40, h⟩ := gd_e h
          cases h
          exact g_zret (pc := 108) G z40 dX10_areMixed_108
        · rw [if_neg c39] at h
          refine g_iload (pc := 71) G dX10_areMixed_71 2 rfl ?_
          refine g_if_eq (pc := 73) G 106 dX10_areMixed_73 (by decide) (fun c41 => ?_) (fun c41 => ?_)
          · rw [if_pos c41] at h
            refine g_iload (pc := 106) G dX10_areMixed_106 2 rfl ?_
            obtain ⟨z42, h⟩ := gd_e h
            cases h
            exact g_zret (pc := 108) G z42 dX10_areMixed_108
          · rw [if_neg c41] at h
            refine g_aload_n (pc := 76) G dX10_areMixed_76 0 rfl ?_
            obtain ⟨r43, e44, h⟩ := bd_e h
            obtain ⟨f45, k46⟩ := ck_e e44
            refine g_getR (pc := 77) G ci_9 (uw_9 G.2.2.2.2.1) (k := 15) (by decide) rfl rfl k_this (q789 G.2.2.2.2.1) dX10_areMixed_77 f45 ?_
            refine g_iload (pc := 80) G dX10_areMixed_80 3 rfl ?_
            obtain ⟨b47, h⟩ := gd_e h
            refine g_iald (pc := 82) G k46 b47 dX10_areMixed_82 ?_
            refine g_aload_n (pc := 83) G dX10_areMixed_83 0 rfl ?_
            obtain ⟨r48, e49, h⟩ := bd_e h
            obtain ⟨f50, k51⟩ := ck_e e49
            refine g_getR (pc := 84) G ci_9 (uw_9 G.2.2.2.2.1) (k := 13) (by decide) rfl rfl k_this (q787 G.2.2.2.2.1) dX10_areMixed_84 f50 ?_
            refine g_iload (pc := 87) G dX10_areMixed_87 3 rfl ?_
            obtain ⟨b52, h⟩ := gd_e h
            refine g_iald (pc := 89) G k51 b52 dX10_areMixed_89 ?_
            refine g_icmp_ne (pc := 90) G 97 dX10_areMixed_90 (by decide) (fun c53 => ?_) (fun c53 => ?_)
            · rw [if_neg c53] at h
              refine g_iconst (pc := 97) G (v := 0) dX10_areMixed_97 (by decide) ?_
              refine g_istore (L' := [(5, .int 0), (0, rv b (some this)), (3, .int r3), (6, .int v36)]) (pc := 98) G dX10_areMixed_98 (by decide) rfl ?_
              refine g_iinc (v := v36 + 1) (L' := [(6, .int (v36 + 1)), (5, .int 0), (0, rv b (some this)), (3, .int r3)]) (pc := 100) G dX10_areMixed_100 3 rfl rfl (by decide) rfl ?_
              refine g_goto (pc := 103) G 65 dX10_areMixed_103 (by decide) ?_
              exact g_sub [2, 3, 1, 0] rfl (ih37 _ _ h)
            · rw [if_pos c53] at h
              refine g_iconst (pc := 93) G (v := 1) dX10_areMixed_93 (by decide) ?_
              refine g_goto (pc := 94) G 98 dX10_areMixed_94 (by decide) ?_
              refine g_istore (L' := [(5, .int 1), (0, rv b (some this)), (3, .int r3), (6, .int v36)]) (pc := 98) G dX10_areMixed_98 (by decide) rfl ?_
              refine g_iinc (v := v36 + 1) (L' := [(6, .int (v36 + 1)), (5, .int 1), (0, rv b (some this)), (3, .int r3)]) (pc := 100) G dX10_areMixed_100 3 rfl rfl (by decide) rfl ?_
              refine g_goto (pc := 103) G 65 dX10_areMixed_103 (by decide) ?_
              exact g_sub [2, 3, 1, 0] rfl (ih37 _ _ h)
    exact g_sub [2, 3, 1, 0] rfl (LP38 _ _ _ h)
  refine g_icmp_eq (pc := 46) G 59 dX10_areMixed_46 (by decide) (fun c32 => ?_) (fun c32 => ?_)
  · rw [if_pos c32] at hx30
    refine g_iconst (pc := 59) G (v := 0) dX10_areMixed_59 (by decide) ?_
    cases hx30
    exact g_sub [1, 3] rfl K29
  · rw [if_neg c32] at hx30
    refine g_iload_n (pc := 49) G dX10_areMixed_49 3 rfl ?_
    refine g_iload (pc := 50) G dX10_areMixed_50 0 rfl ?_
    refine g_icmp_ne (pc := 52) G 59 dX10_areMixed_52 (by decide) (fun c33 => ?_) (fun c33 => ?_)
    · rw [if_neg c33] at hx30
      refine g_iconst (pc := 59) G (v := 0) dX10_areMixed_59 (by decide) ?_
      cases hx30
      exact g_sub [1, 3] rfl K29
    · rw [if_pos c33] at hx30
      refine g_iconst (pc := 55) G (v := 1) dX10_areMixed_55 (by decide) ?_
      refine g_goto (pc := 56) G 60 dX10_areMixed_56 (by decide) ?_
      cases hx30
      exact g_sub [1, 3] rfl K29
theorem c_Mo_areMixed (l : Launch) (D : va_G) (ca : Nat → ClassId) (b : Nat) {T : Tx} {V : Vx} {this : Nat} {p1 : Int32} {p2 : Int32} {rr : Int32} {Vf : Vx} (k_this : kd T this = 9) (h : Mo_areMixed T V this p1 p2 = some (rr, Vf)) : MG l yX10_areMixed cX10_areMixed 7 (Option.some Jvm.ClassFile.FieldType.boolean) 7 172 0 0 D ca b [rv b (some this), .int p1, .int p2] T V (some (.int rr)) T Vf :=
  MG.ofWG (L := [(0, rv b (some this)), (1, .int p1), (2, .int p2)]) (by decide +kernel) rfl (Nat.le_of_ble_eq_true rfl) (fun _ _ _ _ _ _ _ G _ => w_Mo_areMixed G ⟨Nat.le_refl _, Nat.le_refl _⟩ k_this h)
set_option maxHeartbeats 4000000 in
set_option maxRecDepth 100000 in
theorem w_Mo_mixed {p : Program} {l : Launch} {e : Env} {R : Room} {s : State} {m : MethodId} {args : Array Value} {below : List Frame} {meth : Method} {c : Code} {D : va_G} {ca : Nat → ClassId} {b : Nat} {T : Tx} {V : Vx} (G : GX p s m meth c cX10_mixed 4 (Option.some Jvm.ClassFile.FieldType.int) RX10 "mixed" D ca b) (hR : 8 ≤ R.frames ∧ 198 ≤ R.locals) {this : Nat} {p1 : Int32} {rr : Int32} {Vf : Vx} (k_this : kd T this = 9) (h : Mo_mixed T V this p1 = some (rr, Vf)) : WG p l e R s m args below meth c D ca b 4 (QG D ca b (some (.int rr)) T Vf below args s 0 0) 0 0 T V 0 [(0, rv b (some this)), (1, .int p1)] [] := by
  unfold Mo_mixed at h
  refine g_iconst (pc := 0) G (v := 0) dX10_mixed_0 (by decide) ?_
  refine g_istore_n (L' := [(2, .int 0), (0, rv b (some this)), (1, .int p1)]) (pc := 1) G dX10_mixed_1 (by decide) rfl ?_
  refine g_iconst (pc := 2) G (v := 0) dX10_mixed_2 (by decide) ?_
  refine g_istore_n (L' := [(3, .int 0), (2, .int 0), (0, rv b (some this)), (1, .int p1)]) (pc := 3) G dX10_mixed_3 (by decide) rfl ?_
  have LP6 : ∀ (n1 : Nat) (V4 : Vx) (v2 : Int32) (v3 : Int32), Mo_mixed_L4 T this p1 n1 V4 v2 v3 = some (rr, Vf) → WG p l e R s m args below meth c D ca b 4 (QG D ca b (some (.int rr)) T Vf below args s 0 0) 0 0 T V4 4 [(0, rv b (some this)), (1, .int p1), (2, .int v2), (3, .int v3)] [] := by
    intro n1
    induction n1 with
    | zero =>
      intro V4 v2 v3 h
      cases h
    | succ n1 ih5 =>
      intro V4 v2 v3 h
      rw [Mo_mixed_L4] at h
      refine g_iload_n (pc := 4) G dX10_mixed_4 3 rfl ?_
      refine g_aload_n (pc := 5) G dX10_mixed_5 0 rfl ?_
      obtain ⟨r7, e8, h⟩ := bd_e h
      obtain ⟨f9, k10⟩ := ck_e e8
      refine g_getR (pc := 6) G ci_9 (uw_9 G.2.2.2.2.1) (k := 3) (by decide) rfl rfl k_this (q777 G.2.2.2.2.1) dX10_mixed_6 f9 ?_
      refine g_sipush (pc := 9) G (v := 165) dX10_mixed_9 (by decide) ?_
      obtain ⟨b11, h⟩ := gd_e h
      refine g_iald (pc := 12) G k10 b11 dX10_mixed_12 ?_
      refine g_icmp_ge (pc := 13) G 44 dX10_mixed_13 (by decide) (fun c12 => ?_) (fun c12 => ?_)
      · rw [if_pos c12] at h
        refine g_iload_n (pc := 44) G dX10_mixed_44 2 rfl ?_
        cases h
        exact g_iret (pc := 45) G dX10_mixed_45
      · rw [if_neg c12] at h
        refine g_iload_n (pc := 16) G dX10_mixed_16 2 rfl ?_
        refine g_iload_n (pc := 17) G dX10_mixed_17 3 rfl ?_
        refine g_iload_n (pc := 18) G dX10_mixed_18 1 rfl ?_
        refine g_icmp_eq (pc := 19) G 35 dX10_mixed_19 (by decide) (fun c13 => ?_) (fun c13 => ?_)
        · rw [if_pos c13] at h
          refine g_iconst (pc := 35) G (v := 0) dX10_mixed_35 (by decide) ?_
          refine g_iadd (pc := 36) G dX10_mixed_36 ?_
          obtain ⟨x14, e15, h⟩ := lt_e h
          rw [e15]
          refine g_istore_n (L' := [(2, .int x14), (0, rv b (some this)), (1, .int p1), (3, .int v3)]) (pc := 37) G dX10_mixed_37 (by decide) rfl ?_
          refine g_iinc (v := v3 + 1) (L' := [(3, .int (v3 + 1)), (2, .int x14), (0, rv b (some this)), (1, .int p1)]) (pc := 38) G dX10_mixed_38 3 rfl rfl (by decide) rfl ?_
          refine g_goto (pc := 41) G 4 dX10_mixed_41 (by decide) ?_
          exact g_sub [2, 3, 1, 0] rfl (ih5 _ _ _ h)
        · rw [if_neg c13] at h
          refine g_aload_n (pc := 22) G dX10_mixed_22 0 rfl ?_
          refine g_iload_n (pc := 23) G dX10_mixed_23 1 rfl ?_
          refine g_iload_n (pc := 24) G dX10_mixed_24 3 rfl ?_
          obtain ⟨r18, V17, e16, h⟩ := bd2_e h
          refine g_callV (pc := 25) (As := [.int p1, .int v3]) (rest := [.int v2]) (st2 := [.int r18, .int v2]) G (c_Mo_areMixed l D ca b k_this e16) (mb_Mo_areMixed G.2.2.2.2.1) (q1013 G.2.2.2.2.1) (q48 G.2.2.2.2.1) (q1011 G.2.2.2.2.1) ci_9 k_this rfl rfl (Nat.le_of_ble_eq_true rfl) ⟨Nat.le_trans (Nat.le_of_ble_eq_true rfl) hR.1, Nat.le_trans (Nat.le_of_ble_eq_true rfl) hR.2⟩ ⟨Nat.zero_le _, Nat.zero_le _⟩ rfl rfl dX10_mixed_25 ?_
          refine g_if_eq (pc := 28) G 35 dX10_mixed_28 (by decide) (fun c19 => ?_) (fun c19 => ?_)
          · rw [if_pos c19] at h
            refine g_iconst (pc := 35) G (v := 0) dX10_mixed_35 (by decide) ?_
            refine g_iadd (pc := 36) G dX10_mixed_36 ?_
            obtain ⟨x20, e21, h⟩ := lt_e h
            rw [e21]
            refine g_istore_n (L' := [(2, .int x20), (0, rv b (some this)), (1, .int p1), (3, .int v3)]) (pc := 37) G dX10_mixed_37 (by decide) rfl ?_
            refine g_iinc (v := v3 + 1) (L' := [(3, .int (v3 + 1)), (2, .int x20), (0, rv b (some this)), (1, .int p1)]) (pc := 38) G dX10_mixed_38 3 rfl rfl (by decide) rfl ?_
            refine g_goto (pc := 41) G 4 dX10_mixed_41 (by decide) ?_
            exact g_sub [2, 3, 1, 0] rfl (ih5 _ _ _ h)
          · rw [if_neg c19] at h
            refine g_iconst (pc := 31) G (v := 1) dX10_mixed_31 (by decide) ?_
            refine g_goto (pc := 32) G 36 dX10_mixed_32 (by decide) ?_
            refine g_iadd (pc := 36) G dX10_mixed_36 ?_
            obtain ⟨x22, e23, h⟩ := lt_e h
            rw [e23]
            refine g_istore_n (L' := [(2, .int x22), (0, rv b (some this)), (1, .int p1), (3, .int v3)]) (pc := 37) G dX10_mixed_37 (by decide) rfl ?_
            refine g_iinc (v := v3 + 1) (L' := [(3, .int (v3 + 1)), (2, .int x22), (0, rv b (some this)), (1, .int p1)]) (pc := 38) G dX10_mixed_38 3 rfl rfl (by decide) rfl ?_
            refine g_goto (pc := 41) G 4 dX10_mixed_41 (by decide) ?_
            exact g_sub [2, 3, 1, 0] rfl (ih5 _ _ _ h)
  exact g_sub [2, 3, 1, 0] rfl (LP6 _ _ _ _ h)
theorem c_Mo_mixed (l : Launch) (D : va_G) (ca : Nat → ClassId) (b : Nat) {T : Tx} {V : Vx} {this : Nat} {p1 : Int32} {rr : Int32} {Vf : Vx} (k_this : kd T this = 9) (h : Mo_mixed T V this p1 = some (rr, Vf)) : MG l yX10_mixed cX10_mixed 4 (Option.some Jvm.ClassFile.FieldType.int) 8 198 0 0 D ca b [rv b (some this), .int p1] T V (some (.int rr)) T Vf :=
  MG.ofWG (L := [(0, rv b (some this)), (1, .int p1)]) (by decide +kernel) rfl (Nat.le_of_ble_eq_true rfl) (fun _ _ _ _ _ _ _ G _ => w_Mo_mixed G ⟨Nat.le_refl _, Nat.le_refl _⟩ k_this h)
set_option maxHeartbeats 4000000 in
set_option maxRecDepth 100000 in
theorem w_Mo_leastWith {p : Program} {l : Launch} {e : Env} {R : Room} {s : State} {m : MethodId} {args : Array Value} {below : List Frame} {meth : Method} {c : Code} {D : va_G} {ca : Nat → ClassId} {b : Nat} {T : Tx} {V : Vx} (G : GX p s m meth c cX10_leastWith 7 (Option.some Jvm.ClassFile.FieldType.int) RX10 "leastWith" D ca b) (hR : 7 ≤ R.frames ∧ 172 ≤ R.locals) {this : Nat} {p1 : Int32} {rr : Int32} {Vf : Vx} (k_this : kd T this = 9) (h : Mo_leastWith T V this p1 = some (rr, Vf)) : WG p l e R s m args below meth c D ca b 7 (QG D ca b (some (.int rr)) T Vf below args s 0 0) 0 0 T V 0 [(0, rv b (some this)), (1, .int p1)] [] := by
  unfold Mo_leastWith at h
  refine g_iconst (pc := 0) G (v := 0) dX10_leastWith_0 (by decide) ?_
  refine g_istore_n (L' := [(2, .int 0), (0, rv b (some this)), (1, .int p1)]) (pc := 1) G dX10_leastWith_1 (by decide) rfl ?_
  refine g_iconst (pc := 2) G (v := 0) dX10_leastWith_2 (by decide) ?_
  refine g_istore_n (L' := [(3, .int 0), (2, .int 0), (0, rv b (some this)), (1, .int p1)]) (pc := 3) G dX10_leastWith_3 (by decide) rfl ?_
  have LP6 : ∀ (n1 : Nat) (V4 : Vx) (v2 : Int32) (v3 : Int32), Mo_leastWith_L4 T this p1 n1 V4 v2 v3 = some (rr, Vf) → WG p l e R s m args below meth c D ca b 7 (QG D ca b (some (.int rr)) T Vf below args s 0 0) 0 0 T V4 4 [(0, rv b (some this)), (1, .int p1), (2, .int v2), (3, .int v3)] [] := by
    intro n1
    induction n1 with
    | zero =>
      intro V4 v2 v3 h
      cases h
    | succ n1 ih5 =>
      intro V4 v2 v3 h
      rw [Mo_leastWith_L4] at h
      refine g_iload_n (pc := 4) G dX10_leastWith_4 3 rfl ?_
      refine g_aload_n (pc := 5) G dX10_leastWith_5 0 rfl ?_
      obtain ⟨r7, e8, h⟩ := bd_e h
      obtain ⟨f9, k10⟩ := ck_e e8
      refine g_getR (pc := 6) G ci_9 (uw_9 G.2.2.2.2.1) (k := 3) (by decide) rfl rfl k_this (q777 G.2.2.2.2.1) dX10_leastWith_6 f9 ?_
      refine g_sipush (pc := 9) G (v := 165) dX10_leastWith_9 (by decide) ?_
      obtain ⟨b11, h⟩ := gd_e h
      refine g_iald (pc := 12) G k10 b11 dX10_leastWith_12 ?_
      refine g_icmp_ge (pc := 13) G 84 dX10_leastWith_13 (by decide) (fun c12 => ?_) (fun c12 => ?_)
      · rw [if_pos c12] at h
        refine g_iload_n (pc := 84) G dX10_leastWith_84 2 rfl ?_
        cases h
        exact g_iret (pc := 85) G dX10_leastWith_85
      · rw [if_neg c12] at h
        refine g_aload_n (pc := 16) G dX10_leastWith_16 0 rfl ?_
        refine g_iload_n (pc := 17) G dX10_leastWith_17 3 rfl ?_
        obtain ⟨r15, V14, e13, h⟩ := bd2_e h
        refine g_callV (pc := 18) (As := [.int v3]) (rest := []) (st2 := [.int r15]) G (c_Mo_leasts l D ca b k_this e13) (mb_Mo_leasts G.2.2.2.2.1) (q933 G.2.2.2.2.1) (q29 G.2.2.2.2.1) (q931 G.2.2.2.2.1) ci_9 k_this rfl rfl (Nat.le_of_ble_eq_true rfl) ⟨Nat.le_trans (Nat.le_of_ble_eq_true rfl) hR.1, Nat.le_trans (Nat.le_of_ble_eq_true rfl) hR.2⟩ ⟨Nat.zero_le _, Nat.zero_le _⟩ rfl rfl dX10_leastWith_18 ?_
        refine g_istore (L' := [(4, .int r15), (0, rv b (some this)), (1, .int p1), (2, .int v2), (3, .int v3)]) (pc := 21) G dX10_leastWith_21 (by decide) rfl ?_
        refine g_iconst (pc := 23) G (v := 0) dX10_leastWith_23 (by decide) ?_
        refine g_istore (L' := [(5, .int 0), (4, .int r15), (0, rv b (some this)), (1, .int p1), (2, .int v2), (3, .int v3)]) (pc := 24) G dX10_leastWith_24 (by decide) rfl ?_
        refine g_iconst (pc := 26) G (v := 0) dX10_leastWith_26 (by decide) ?_
        refine g_istore (L' := [(6, .int 0), (5, .int 0), (4, .int r15), (0, rv b (some this)), (1, .int p1), (2, .int v2), (3, .int v3)]) (pc := 27) G dX10_leastWith_27 (by decide) rfl ?_
        have LP20 : ∀ (n16 : Nat) (v17 : Int32) (v18 : Int32) (y21 : Int32), Mo_leastWith_L29 T V14 this p1 v2 v3 r15 n16 v17 v18 = some (y21) → WG p l e R s m args below meth c D ca b 7 (QG D ca b (some (.int rr)) T Vf below args s 0 0) 0 0 T V14 65 [(0, rv b (some this)), (1, .int p1), (2, .int v2), (3, .int v3), (5, .int y21)] [] → WG p l e R s m args below meth c D ca b 7 (QG D ca b (some (.int rr)) T Vf below args s 0 0) 0 0 T V14 29 [(0, rv b (some this)), (1, .int p1), (2, .int v2), (3, .int v3), (4, .int r15), (5, .int v17), (6, .int v18)] [] := by
          intro n16
          induction n16 with
          | zero =>
            intro v17 v18 y21 h
            cases h
          | succ n16 ih19 =>
            intro v17 v18 y21 h K22
            rw [Mo_leastWith_L29] at h
            refine g_iload (pc := 29) G dX10_leastWith_29 6 rfl ?_
            refine g_iload (pc := 31) G dX10_leastWith_31 4 rfl ?_
            refine g_icmp_ge (pc := 33) G 65 dX10_leastWith_33 (by decide) (fun c23 => ?_) (fun c23 => ?_)
            · rw [if_pos c23] at h
              cases h
              exact g_sub [0, 1, 2, 3, 5] rfl K22
            · rw [if_neg c23] at h
              refine g_iload (pc := 36) G dX10_leastWith_36 5 rfl ?_
              refine g_if_ne (pc := 38) G 52 dX10_leastWith_38 (by decide) (fun c24 => ?_) (fun c24 => ?_)
              · rw [if_neg c24] at h
                refine g_iconst (pc := 52) G (v := 1) dX10_leastWith_52 (by decide) ?_
                refine g_goto (pc := 53) G 57 dX10_leastWith_53 (by decide) ?_
                refine g_istore (L' := [(5, .int 1), (0, rv b (some this)), (1, .int p1), (2, .int v2), (3, .int v3), (4, .int r15), (6, .int v18)]) (pc := 57) G dX10_leastWith_57 (by decide) rfl ?_
                refine g_iinc (v := v18 + 1) (L' := [(6, .int (v18 + 1)), (5, .int 1), (0, rv b (some this)), (1, .int p1), (2, .int v2), (3, .int v3), (4, .int r15)]) (pc := 59) G dX10_leastWith_59 6 rfl rfl (by decide) rfl ?_
                refine g_goto (pc := 62) G 29 dX10_leastWith_62 (by decide) ?_
                exact g_sub [2, 3, 4, 5, 6, 1, 0] rfl (ih19 _ _ _ h K22)
              · rw [if_pos c24] at h
                refine g_aload_n (pc := 41) G dX10_leastWith_41 0 rfl ?_
                obtain ⟨r25, e26, h⟩ := bd_e h
                obtain ⟨f27, k28⟩ := ck_e e26
                refine g_getR (pc := 42) G ci_9 (uw_9 G.2.2.2.2.1) (k := 13) (by decide) rfl rfl k_this (q787 G.2.2.2.2.1) dX10_leastWith_42 f27 ?_
                refine g_iload (pc := 45) G dX10_leastWith_45 6 rfl ?_
                obtain ⟨b29, h⟩ := gd_e h
                refine g_iald (pc := 47) G k28 b29 dX10_leastWith_47 ?_
                refine g_iload_n (pc := 48) G dX10_leastWith_48 1 rfl ?_
                refine g_icmp_ne (pc := 49) G 56 dX10_leastWith_49 (by decide) (fun c30 => ?_) (fun c30 => ?_)
                · rw [if_neg c30] at h
                  refine g_iconst (pc := 56) G (v := 0) dX10_leastWith_56 (by decide) ?_
                  refine g_istore (L' := [(5, .int 0), (0, rv b (some this)), (1, .int p1), (2, .int v2), (3, .int v3), (4, .int r15), (6, .int v18)]) (pc := 57) G dX10_leastWith_57 (by decide) rfl ?_
                  refine g_iinc (v := v18 + 1) (L' := [(6, .int (v18 + 1)), (5, .int 0), (0, rv b (some this)), (1, .int p1), (2, .int v2), (3, .int v3), (4, .int r15)]) (pc := 59) G dX10_leastWith_59 6 rfl rfl (by decide) rfl ?_
                  refine g_goto (pc := 62) G 29 dX10_leastWith_62 (by decide) ?_
                  exact g_sub [2, 3, 4, 5, 6, 1, 0] rfl (ih19 _ _ _ h K22)
                · rw [if_pos c30] at h
                  refine g_iconst (pc := 52) G (v := 1) dX10_leastWith_52 (by decide) ?_
                  refine g_goto (pc := 53) G 57 dX10_leastWith_53 (by decide) ?_
                  refine g_istore (L' := [(5, .int 1), (0, rv b (some this)), (1, .int p1), (2, .int v2), (3, .int v3), (4, .int r15), (6, .int v18)]) (pc := 57) G dX10_leastWith_57 (by decide) rfl ?_
                  refine g_iinc (v := v18 + 1) (L' := [(6, .int (v18 + 1)), (5, .int 1), (0, rv b (some this)), (1, .int p1), (2, .int v2), (3, .int v3), (4, .int r15)]) (pc := 59) G dX10_leastWith_59 6 rfl rfl (by decide) rfl ?_
                  refine g_goto (pc := 62) G 29 dX10_leastWith_62 (by decide) ?_
                  exact g_sub [2, 3, 4, 5, 6, 1, 0] rfl (ih19 _ _ _ h K22)
        obtain ⟨y21, e31, h⟩ := bd_e h
        refine g_sub [3, 4, 5, 6, 2, 1, 0] rfl (LP20 _ _ _ _ e31 ?_)
        refine g_iload_n (pc := 65) G dX10_leastWith_65 2 rfl ?_
        refine g_iload (pc := 66) G dX10_leastWith_66 4 rfl ?_
        refine g_if_eq (pc := 68) G 75 dX10_leastWith_68 (by decide) (fun c32 => ?_) (fun c32 => ?_)
        · rw [if_pos c32] at h
          refine g_iconst (pc := 75) G (v := 0) dX10_leastWith_75 (by decide) ?_
          refine g_iadd (pc := 76) G dX10_leastWith_76 ?_
          obtain ⟨x33, e34, h⟩ := lt_e h
          rw [e34]
          refine g_istore_n (L' := [(2, .int x33), (0, rv b (some this)), (1, .int p1), (3, .int v3), (5, .int y21)]) (pc := 77) G dX10_leastWith_77 (by decide) rfl ?_
          refine g_iinc (v := v3 + 1) (L' := [(3, .int (v3 + 1)), (2, .int x33), (0, rv b (some this)), (1, .int p1), (5, .int y21)]) (pc := 78) G dX10_leastWith_78 3 rfl rfl (by decide) rfl ?_
          refine g_goto (pc := 81) G 4 dX10_leastWith_81 (by decide) ?_
          exact g_sub [2, 3, 1, 0] rfl (ih5 _ _ _ h)
        · rw [if_neg c32] at h
          refine g_iconst (pc := 71) G (v := 1) dX10_leastWith_71 (by decide) ?_
          refine g_goto (pc := 72) G 76 dX10_leastWith_72 (by decide) ?_
          refine g_iadd (pc := 76) G dX10_leastWith_76 ?_
          obtain ⟨x35, e36, h⟩ := lt_e h
          rw [e36]
          refine g_istore_n (L' := [(2, .int x35), (0, rv b (some this)), (1, .int p1), (3, .int v3), (5, .int y21)]) (pc := 77) G dX10_leastWith_77 (by decide) rfl ?_
          refine g_iinc (v := v3 + 1) (L' := [(3, .int (v3 + 1)), (2, .int x35), (0, rv b (some this)), (1, .int p1), (5, .int y21)]) (pc := 78) G dX10_leastWith_78 3 rfl rfl (by decide) rfl ?_
          refine g_goto (pc := 81) G 4 dX10_leastWith_81 (by decide) ?_
          exact g_sub [2, 3, 1, 0] rfl (ih5 _ _ _ h)
  exact g_sub [2, 3, 1, 0] rfl (LP6 _ _ _ _ h)
theorem c_Mo_leastWith (l : Launch) (D : va_G) (ca : Nat → ClassId) (b : Nat) {T : Tx} {V : Vx} {this : Nat} {p1 : Int32} {rr : Int32} {Vf : Vx} (k_this : kd T this = 9) (h : Mo_leastWith T V this p1 = some (rr, Vf)) : MG l yX10_leastWith cX10_leastWith 7 (Option.some Jvm.ClassFile.FieldType.int) 7 172 0 0 D ca b [rv b (some this), .int p1] T V (some (.int rr)) T Vf :=
  MG.ofWG (L := [(0, rv b (some this)), (1, .int p1)]) (by decide +kernel) rfl (Nat.le_of_ble_eq_true rfl) (fun _ _ _ _ _ _ _ G _ => w_Mo_leastWith G ⟨Nat.le_refl _, Nat.le_refl _⟩ k_this h)
set_option maxHeartbeats 4000000 in
set_option maxRecDepth 100000 in
theorem w_Mo_sign {p : Program} {l : Launch} {e : Env} {R : Room} {s : State} {m : MethodId} {args : Array Value} {below : List Frame} {meth : Method} {c : Code} {D : va_G} {ca : Nat → ClassId} {b : Nat} {T : Tx} {V : Vx} (G : GX p s m meth c cX10_sign 3 (Option.some Jvm.ClassFile.FieldType.int) RX10 "sign" D ca b) (hR : 8 ≤ R.frames ∧ 198 ≤ R.locals) {this : Nat} {p1 : Int32} {p2 : Int32} {rr : Int32} {Vf : Vx} (k_this : kd T this = 9) (h : Mo_sign T V this p1 p2 = some (rr, Vf)) : WG p l e R s m args below meth c D ca b 3 (QG D ca b (some (.int rr)) T Vf below args s 0 0) 0 0 T V 0 [(0, rv b (some this)), (1, .int p1), (2, .int p2)] [] := by
  unfold Mo_sign at h
  refine g_aload_n (pc := 0) G dX10_sign_0 0 rfl ?_
  refine g_iload_n (pc := 1) G dX10_sign_1 1 rfl ?_
  obtain ⟨r2, e1, h⟩ := bd_e h
  refine g_callV (pc := 2) (As := [.int p1]) (rest := []) (st2 := [.int r2]) G (c_Mo_isSign l D ca b k_this e1) (mb_Mo_isSign G.2.2.2.2.1) (q897 G.2.2.2.2.1) (q25 G.2.2.2.2.1) (q895 G.2.2.2.2.1) ci_9 k_this rfl rfl (Nat.le_of_ble_eq_true rfl) ⟨Nat.le_trans (Nat.le_of_ble_eq_true rfl) hR.1, Nat.le_trans (Nat.le_of_ble_eq_true rfl) hR.2⟩ ⟨Nat.zero_le _, Nat.zero_le _⟩ rfl rfl dX10_sign_2 ?_
  refine g_if_eq (pc := 5) G 20 dX10_sign_5 (by decide) (fun c3 => ?_) (fun c3 => ?_)
  · rw [if_pos c3] at h
    refine g_iconst (pc := 20) G (v := (-1)) dX10_sign_20 (by decide) ?_
    cases h
    exact g_iret (pc := 21) G dX10_sign_21
  · rw [if_neg c3] at h
    refine g_iload_n (pc := 8) G dX10_sign_8 2 rfl ?_
    refine g_i2l (pc := 9) G dX10_sign_9 ?_
    refine g_lconst (pc := 10) G (v := 0) dX10_sign_10 (by decide) ?_
    refine g_ldc2 (pc := 11) G (v := 4) (q926 G.2.2.2.2.1) dX10_sign_11 ?_
    obtain ⟨r5, e4, h⟩ := bd_e h
    refine g_callS (pc := 14) (As := [.long (Int32.toInt64 p2), .long 0, .long 4]) (rest := []) (st2 := [.int r5]) G (c_Mo_in l D ca b  e4) (mb_Mo_in G.2.2.2.2.1) (q842 G.2.2.2.2.1) (q841 G.2.2.2.2.1) rfl rfl (Nat.le_of_ble_eq_true rfl) ⟨Nat.le_trans (Nat.le_of_ble_eq_true rfl) hR.1, Nat.le_trans (Nat.le_of_ble_eq_true rfl) hR.2⟩ ⟨Nat.zero_le _, Nat.zero_le _⟩ rfl rfl dX10_sign_14 ?_
    refine g_if_ne (pc := 17) G 22 dX10_sign_17 (by decide) (fun c6 => ?_) (fun c6 => ?_)
    · rw [if_neg c6] at h
      refine g_iload_n (pc := 22) G dX10_sign_22 2 rfl ?_
      refine g_iconst (pc := 23) G (v := 3) dX10_sign_23 (by decide) ?_
      refine g_icmp_ge (pc := 24) G 41 dX10_sign_24 (by decide) (fun c7 => ?_) (fun c7 => ?_)
      · rw [if_pos c7] at h
        refine g_iload_n (pc := 41) G dX10_sign_41 2 rfl ?_
        refine g_iconst (pc := 42) G (v := 3) dX10_sign_42 (by decide) ?_
        refine g_icmp_ne (pc := 43) G 62 dX10_sign_43 (by decide) (fun c8 => ?_) (fun c8 => ?_)
        · rw [if_neg c8] at h
          refine g_aload_n (pc := 62) G dX10_sign_62 0 rfl ?_
          refine g_iload_n (pc := 63) G dX10_sign_63 1 rfl ?_
          obtain ⟨r11, V10, e9, h⟩ := bd2_e h
          refine g_callV (pc := 64) (As := [.int p1]) (rest := []) (st2 := [.int r11]) G (c_Mo_leastWith l D ca b k_this e9) (mb_Mo_leastWith G.2.2.2.2.1) (q929 G.2.2.2.2.1) (q28 G.2.2.2.2.1) (q927 G.2.2.2.2.1) ci_9 k_this rfl rfl (Nat.le_of_ble_eq_true rfl) ⟨Nat.le_trans (Nat.le_of_ble_eq_true rfl) hR.1, Nat.le_trans (Nat.le_of_ble_eq_true rfl) hR.2⟩ ⟨Nat.zero_le _, Nat.zero_le _⟩ rfl rfl dX10_sign_64 ?_
          cases h
          exact g_iret (pc := 67) G dX10_sign_67
        · rw [if_pos c8] at h
          refine g_aload_n (pc := 46) G dX10_sign_46 0 rfl ?_
          refine g_iload_n (pc := 47) G dX10_sign_47 1 rfl ?_
          obtain ⟨r13, e12, h⟩ := bd_e h
          refine g_callV (pc := 48) (As := [.int p1]) (rest := []) (st2 := [.int r13]) G (c_Mo_isStruck l D ca b k_this e12) (mb_Mo_isStruck G.2.2.2.2.1) (q901 G.2.2.2.2.1) (q26 G.2.2.2.2.1) (q899 G.2.2.2.2.1) ci_9 k_this rfl rfl (Nat.le_of_ble_eq_true rfl) ⟨Nat.le_trans (Nat.le_of_ble_eq_true rfl) hR.1, Nat.le_trans (Nat.le_of_ble_eq_true rfl) hR.2⟩ ⟨Nat.zero_le _, Nat.zero_le _⟩ rfl rfl dX10_sign_48 ?_
          refine g_if_eq (pc := 51) G 58 dX10_sign_51 (by decide) (fun c14 => ?_) (fun c14 => ?_)
          · rw [if_pos c14] at h
            refine g_iconst (pc := 58) G (v := 0) dX10_sign_58 (by decide) ?_
            refine g_goto (pc := 59) G 67 dX10_sign_59 (by decide) ?_
            cases h
            exact g_iret (pc := 67) G dX10_sign_67
          · rw [if_neg c14] at h
            refine g_iconst (pc := 54) G (v := 1) dX10_sign_54 (by decide) ?_
            refine g_goto (pc := 55) G 67 dX10_sign_55 (by decide) ?_
            cases h
            exact g_iret (pc := 67) G dX10_sign_67
      · rw [if_neg c7] at h
        refine g_aload_n (pc := 27) G dX10_sign_27 0 rfl ?_
        obtain ⟨r15, e16, h⟩ := bd_e h
        obtain ⟨f17, k18⟩ := ck_e e16
        refine g_getR (pc := 28) G ci_9 (uw_9 G.2.2.2.2.1) (k := 3) (by decide) rfl rfl k_this (q777 G.2.2.2.2.1) dX10_sign_28 f17 ?_
        refine g_bipush (pc := 31) G (v := 7) dX10_sign_31 (by decide) ?_
        refine g_iload_n (pc := 33) G dX10_sign_33 1 rfl ?_
        refine g_imul (pc := 34) G dX10_sign_34 ?_
        refine g_iload_n (pc := 35) G dX10_sign_35 2 rfl ?_
        refine g_iadd (pc := 36) G dX10_sign_36 ?_
        obtain ⟨b19, h⟩ := gd_e h
        refine g_iald (pc := 37) G k18 b19 dX10_sign_37 ?_
        refine g_goto (pc := 38) G 67 dX10_sign_38 (by decide) ?_
        cases h
        exact g_iret (pc := 67) G dX10_sign_67
    · rw [if_pos c6] at h
      refine g_iconst (pc := 20) G (v := (-1)) dX10_sign_20 (by decide) ?_
      cases h
      exact g_iret (pc := 21) G dX10_sign_21
theorem c_Mo_sign (l : Launch) (D : va_G) (ca : Nat → ClassId) (b : Nat) {T : Tx} {V : Vx} {this : Nat} {p1 : Int32} {p2 : Int32} {rr : Int32} {Vf : Vx} (k_this : kd T this = 9) (h : Mo_sign T V this p1 p2 = some (rr, Vf)) : MG l yX10_sign cX10_sign 3 (Option.some Jvm.ClassFile.FieldType.int) 8 198 0 0 D ca b [rv b (some this), .int p1, .int p2] T V (some (.int rr)) T Vf :=
  MG.ofWG (L := [(0, rv b (some this)), (1, .int p1), (2, .int p2)]) (by decide +kernel) rfl (Nat.le_of_ble_eq_true rfl) (fun _ _ _ _ _ _ _ G _ => w_Mo_sign G ⟨Nat.le_refl _, Nat.le_refl _⟩ k_this h)
