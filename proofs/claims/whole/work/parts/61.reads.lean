/-! ===== least, read, readings, reading, cut ===== -/
theorem lb_some : ∀ b, b < 256 → b ≠ 0 → (lb b).isSome = true := by decide +kernel
section JR
variable {T : Tx} {V V1 V2 : Vx} {L D : Nat} {t : List Nat} {X : Lex} {lo : Bool} {m : Nat} {c : List Nat} {n : Nat} {K : Nat → Nat × Nat} {Ss : Nat → Snap}
theorem m2_cases {y : Int32} (h : -2 ≤ y) : y = -1 ∨ y = -2 ∨ ∃ k, k < 2 ^ 31 ∧ y = nI k := by
  by_cases h0 : y < 0
  · rw [i_le, show (-2 : Int32).toInt = -2 by decide] at h
    rw [i_lt, show (0 : Int32).toInt = 0 by decide] at h0
    have : y.toInt = -1 ∨ y.toInt = -2 := by omega
    rcases this with q | q
    · exact Or.inl ((i_eq _ _).mpr (by rw [q]; decide))
    · exact Or.inr (Or.inl ((i_eq _ _).mpr (by rw [q]; decide)))
  · exact Or.inr (Or.inr (nI_of h0))
set_option maxHeartbeats 1000000 in
theorem j_least (h : Rel T V) (x y : Int32) : Jn T (RS_least T V 0 x y) (fun V1 => Mo_least T V1 166 x y) := by
  have h0 := h
  obtain ⟨k9, L, D, t, X, lo, m, c, n, K, Ss, hC, hM, hH⟩ := h
  have hp := hC.1
  obtain ⟨b1, b2, b3, b4, b5, b6, b7, b8, b9, d1, d2⟩ := hp
  have hX := hC.2.2.2.2.2.2.2.1
  have n8 := hX.2.1.2.1
  have n12 := hX.2.1.1
  rcases sg_cases x (nw X) (by omega) with ⟨w, hw, rfl⟩ | hx
  · obtain ⟨k1, k2, k3, k4, k5⟩ := hX.wrd hw
    have w8 := (hX.2.1.2.2.2.1 w hw).2.2
    by_cases e1 : -2 ≤ y
    · have hpre : RS_least T V 0 (nI w) y = bd (ck T 5 (fR V 804 0)) (fun r9 => bd (ck T 2 (fR V 806 0)) (fun r13 => bd (Sc_settle T V r9 r13) (fun V18 => bd (ck T 5 (fR V18 804 0)) (fun r19 => bd (Sc_rowOf T V18 r19 (nI w)) (fun r24 => (match r24 with | none => some ((-4), V18) | some r25 => bd (ck T 4 (some r25)) (fun _ => bd (Ro_size T V18 r25) (fun r30 => (if r30 = 0 then some ((-4), V18) else (if y = (-1) then bd (Ro_size T V18 r25) (fun r52 => some (r52, V18)) else (if y = (-2) then bd (ck T 7 (some (L + 39 + 3 * w))) (fun _ => bd (ck T 1 (fR V18 700 (L + 39 + 3 * w))) (fun r39 => bd (Le_size T V18 r39) (fun r44 => bd (ck T 2 (fR V18 806 0)) (fun r45 => bd (Lx_lettersOf T V18 r45 r25) (fun r50 => some ((r44 - r50), V18)))))) else bd (Ro_at T V18 r25 y) (fun r35 => some (r35, V18))))))))))))) := by
        rw [RS_least, b9, ck_s hX.1.1, bd_s, wordAt_s hX hw, bd_s]
        dsimp only
        rw [if_pos e1]
        rfl
      obtain ⟨W, p1, p2, p3⟩ := csettle_s hC
      have hM1 := hM.fc p3
      obtain ⟨W2, q1, q2, q3⟩ := leasts_s hw hM1.1
      have hrel := rel_q k9 p2.1 hM p3 q2.n hH
      have hX1 := p2.1.2.2.2.2.2.2.2.1
      have hS1 := p2.1.2.2.2.2.2.1.1
      have hR1 := p2.2.2 w hw
      obtain ⟨kk1, kk2, kk3, kk4, kk5⟩ := hX1.wrd hw
      obtain ⟨l1, l2, l3⟩ := ls_len (lo := lo) (st := stM m) hX.2.1 hw
      have hpre2 : RS_least T V 0 (nI w) y = (if nI (lsW X lo (stM m) w).length = 0 then some ((-4), W) else (if y = (-1) then some (nI (lsW X lo (stM m) w).length, W) else (if y = (-2) then some (nI (wl X w).length - nI (smF (fun i => (su X (ch (lsW X lo (stM m) w) i)).length) (lsW X lo (stM m) w).length 0), W) else bd (Ro_at T W (16 + 2 * w) y) (fun r35 => some (r35, W))))) := by
        rw [hpre, p1, p2.1.1.2.2.2.2.2.2.1, ck_s hS1.1, bd_s, rowOf_s hS1 (by omega), bd_s]
        dsimp only
        rw [ck_s hR1.1, bd_s, Ro_size_s hR1, bd_s, bd_s, ck_s k1, bd_s, kk2, ck_s kk3, bd_s, Le_size_s kk5, bd_s, p2.1.1.2.2.2.2.2.2.2.2.1, ck_s hX.1.1, bd_s, lettersOf_s hX1 hR1 l2, bd_s]
      have hmre : Mo_least T W 166 (nI w) y = bd2 (Mo_leasts T W 166 (nI w)) (fun r7 V6 => (if r7 = (-4) then some ((-4), V6) else (if y < r7 then (if y = (-1) then some (r7, V6) else (if y = (-2) then some ((fI V6 914 166), V6) else bd (ck T 11 (fR V6 913 166)) (fun r12 => gd (inb y (ln T r12)) (some ((aI V6 r12 y.toNatClampNeg), V6))))) else some ((-4), V6)))) := by
        rw [Mo_least, isWord_t hM1.1 hw, bd_s, if_neg (by decide), if_pos e1]
      rw [q1, bd2_s] at hmre
      rcases l3 with ⟨f1, f2⟩ | ⟨f1, f2⟩
      · refine ⟨-4, W, W2, ?_, ?_, hrel⟩
        · rw [hpre2, f2, if_pos (show nI ([] : List Nat).length = 0 from nI_0)]
        · show Mo_least T W 166 (nI w) y = _
          rw [hmre, f1, if_pos (show oI none = -4 from rfl)]
      · obtain ⟨g1, g2⟩ := q3 _ f1
        obtain ⟨-, -, -, -, -, v, hv1, hv2, hv3⟩ := lfW_s hX.2.1 hw f1
        rw [if_neg (nI_ne0 f2 (by omega))] at hpre2
        rw [f1, show oI (some (lsW X lo (stM m) w).length) = nI (lsW X lo (stM m) w).length from rfl, if_neg (fun z => by
          have := nI_pos (show (lsW X lo (stM m) w).length < 2 ^ 31 by omega)
          rw [z] at this
          exact absurd (by decide) this)] at hmre
        rcases m2_cases e1 with rfl | rfl | ⟨k, hk, rfl⟩
        · refine ⟨nI (lsW X lo (stM m) w).length, W, W2, ?_, ?_, hrel⟩
          · rw [hpre2, if_pos rfl]
          · show Mo_least T W 166 (nI w) (-1) = _
            rw [hmre, if_pos (Int32.lt_of_lt_of_le (by decide) (nI_pos' (show (lsW X lo (stM m) w).length < 2 ^ 31 by omega))), if_pos rfl]
        · refine ⟨nI ((wl X w).length - smF (fun i => (su X (ch (lsW X lo (stM m) w) i)).length) (lsW X lo (stM m) w).length 0), W, W2, ?_, ?_, hrel⟩
          · have hs := nI_subn v ((wl X w).length - v)
            rw [show v + ((wl X w).length - v) = (wl X w).length by omega] at hs
            rw [hpre2, if_neg (by decide), if_pos rfl, hv2, hs]
          · show Mo_least T W 166 (nI w) (-2) = _
            rw [hmre, if_pos (Int32.lt_of_lt_of_le (by decide) (nI_pos' (show (lsW X lo (stM m) w).length < 2 ^ 31 by omega))), if_neg (by decide), if_pos rfl, g2]
        · have z1 : ¬ nI k = -1 := nI_ne_m1 hk
          have z2 : ¬ nI k = -2 := fun z => by
            have := nI_pos hk
            rw [z] at this
            exact absurd (by decide) this
          rw [if_neg z1, if_neg z2] at hpre2
          rw [if_neg z1, if_neg z2, if_ltn hk (by omega)] at hmre
          by_cases e2 : k < (lsW X lo (stM m) w).length
          · obtain ⟨-, -, -, -, -, -, -, -, -, ⟨u1, u2, u3⟩, -⟩ := hM1.1.1
            refine ⟨nI (ch (lsW X lo (stM m) w) k), W, W2, ?_, ?_, hrel⟩
            · rw [hpre2, Ro_at_s hR1 k e2, bd_s]
            · show Mo_least T W 166 (nI w) (nI k) = _
              rw [hmre, if_pos e2, q2.1.1, u3, ck_s u1, bd_s, u2, gd_s (inb_n (by omega) (by omega)), cl_n (by omega), g1 k e2]
          · refine ⟨-4, W, W2, ?_, ?_, hrel⟩
            · rw [hpre2, Ro_at_n hR1 (nI k) (Or.inr (nI_le (by omega) hk)), bd_s]
            · show Mo_least T W 166 (nI w) (nI k) = _
              rw [hmre, if_neg e2]
    · refine ⟨-1, V, V, ?_, ?_, h0⟩
      · rw [RS_least, b9, ck_s hX.1.1, bd_s, wordAt_s hX hw, bd_s]
        dsimp only
        rw [if_neg e1]
      · show Mo_least T V 166 (nI w) y = _
        rw [Mo_least, isWord_t hM.1 hw, bd_s, if_neg (by decide), if_neg e1]
  · refine ⟨-1, V, V, ?_, ?_, h0⟩
    · rw [RS_least, b9, ck_s hX.1.1, bd_s, wordAt_n hX hx, bd_s]
    · show Mo_least T V 166 x y = _
      rw [Mo_least, isWord_f hM.1 hx, bd_s, if_pos rfl]
theorem RC.reader {P : Nat → Prop} (h : RC T V L D t X lo m c n K) (hF : Fr P V V1) (hP : ∀ y, P y → 33 ≤ y ∧ y ≤ 37) : RC T V1 L D t X lo m c n K ∧ FC V V1 :=
  ⟨h.frq hF (fun y hy => by have := hP y hy; omega) (h.2.2.2.2.2.1.fr h.2.2.2.2.2.2.2.1.2.1.2.1 hF (fun y a b z => by have := hP y z; omega)), FC.of hF (fun y hy => by have := hP y hy; omega)⟩
theorem j_read (h : Rel T V) (x y : Int32) : ∃ r V1, RS_read T V 0 x y = some (r, V1) ∧ Mo_read T V1 166 x y = some r ∧ Rel T V1 := by
  have h0 := h
  obtain ⟨k9, L, D, t, X, lo, m, c, n, K, Ss, hC, hM, hH⟩ := h
  have hp := hC.1
  obtain ⟨b1, b2, b3, b4, b5, b6, b7, b8, b9, d1, d2⟩ := hp
  have hX := hC.2.2.2.2.2.2.2.1
  have hR := hC.2.2.1
  by_cases e1 : x < 0
  · exact ⟨-1, V, by rw [RS_read, if_pos e1], by rw [Mo_read, if_pos e1], h0⟩
  obtain ⟨j, hj, rfl⟩ := nI_of e1
  by_cases e2 : y < 1
  · exact ⟨-1, V, by rw [RS_read, if_neg e1, if_pos e2], by rw [Mo_read, if_neg e1, in_f T V (a := 1) (a' := 1) (b := 9) (b' := 9) rfl rfl (Or.inl e2), bd_s, if_pos rfl], h0⟩
  by_cases e3 : y ≤ 9
  · have e0 : ¬ y < 0 := fun z => e2 (Int32.lt_of_lt_of_le z (by decide))
    obtain ⟨k, hk, rfl⟩ := nI_of e0
    have e3' := e3
    rw [show (9 : Int32) = nI 9 from rfl, nI_leI (by omega) (by omega)] at e3'
    have e2' := e2
    rw [show (1 : Int32) = nI 1 from rfl, nI_ltI (by omega) (by omega)] at e2'
    have c16 := hM.2.1.1
    have hle : (nI j ≤ nI c.length - nI k) ↔ j + k ≤ c.length := by
      rw [i_le, pk_sub_toInt (by omega) (by omega), nI_toInt (by omega)]
      omega
    have hin : ∀ V, Mo_in T V (nI k).toInt64 1 9 = some 1 := fun V => in_t T V (a := 1) (a' := 1) (b := 9) (b' := 9) rfl rfl e2 (fun z => absurd e3 (Int32.not_le.mpr z))
    have hmre : ∀ V1, RM T V1 t X lo m c n Ss → Mo_read T V1 166 (nI j) (nI k) = if nI c.length < nI j + nI k then some (-2) else if nI j ≤ 16 then bd (Mo_reads T V1 166 170 (3 + nI j) (nI k)) (fun r17 => some r17) else some (-2) := by
      intro V1 hm
      obtain ⟨-, -, -, ⟨g1, g2, g3⟩, -⟩ := hm.1.1
      rw [Mo_read, if_neg e1, hin, bd_s, if_neg (by decide), g3, ck_s g1, bd_s, show (2 : Int32) = nI 2 from rfl, g2, gd_s (inb_n (by omega) (by omega)), cl_n (by omega), hm.2.1.2.1, bd_s]
    by_cases e4 : j + k ≤ c.length
    · have hcl : ∀ i, i < c.length → ch c i < ns X := fun i hi => (hM.2.1.2.2 i hi).2
      have hS := hC.2.2.2.2.2.2.1
      have hS' := hS
      obtain ⟨a1, a2, -, -, -, -, -, -, -, -, g1, -⟩ := hS'
      obtain ⟨W, p1, p2, p3, p4⟩ := look_s (a := 32) (r := 33) (fr_ := j) hcl (by omega) a1 a2 ⟨fun y h1 h2 => by omega, by omega, by omega⟩ hX hR g1
      obtain ⟨r1, r2⟩ := hC.reader p2 (fun y hy => by omega)
      have hM1 := hM.fc r2
      refine ⟨nI (rsF X lo (stM m) c j k), W, ?_, ?_, rel_q k9 r1 hM r2 FrN.rf hH⟩
      · rw [RS_read, if_neg e1, if_neg e2, if_pos e3, b4, ck_s hR.1, bd_s, Ro_size_s hR, bd_s, if_pos (hle.mpr e4), b8, ck_s b2, bd_s, b9, ck_s hX.1.1, bd_s, bd_s, p1, bd_s, r1.1.2.2.2.2.2.2.2.1, ck_s b2, bd_s, wordsBy_s a1 a2 (by rw [p2.1]; exact g1) e3', bd_s, p4 k (by omega) e3', if_pos e4]
        rfl
      · rw [hmre W hM1, nI_add, if_ltn (by omega) (by omega), if_neg (by omega), show (16 : Int32) = nI 16 from rfl, if_le (by omega) (by omega), if_pos (by omega), show (3 : Int32) = nI 3 from rfl, nI_add, creads_s hM1.1 hM1.2.1 e4 (by omega) e3', bd_s]
    · refine ⟨-2, V, ?_, ?_, h0⟩
      · rw [RS_read, if_neg e1, if_neg e2, if_pos e3, b4, ck_s hR.1, bd_s, Ro_size_s hR, bd_s, if_neg (fun z => e4 (hle.mp z))]
      · rw [hmre V hM]
        by_cases e5 : j ≤ 16
        · rw [nI_add, if_ltn (by omega) (by omega), if_pos (by omega)]
        · rw [show (16 : Int32) = nI 16 from rfl, if_le (by omega) (by omega), if_neg e5]
          by_cases e6 : nI c.length < nI j + nI k
          · rw [if_pos e6]
          · rw [if_neg e6]
  · exact ⟨-1, V, by rw [RS_read, if_neg e1, if_neg e2, if_neg e3], by rw [Mo_read, if_neg e1, in_f T V (a := 1) (a' := 1) (b := 9) (b' := 9) rfl rfl (Or.inr (Int32.not_le.mp e3)), bd_s, if_pos rfl], h0⟩
theorem cplan_s (h : RC T V L D t X lo m c n K) (hcl : ∀ i, i < c.length → ch c i < ns X) : ∃ V', (∀ {γ : Type} (f : Vx → Option γ), bd (ck T 3 (fR V 805 0)) (fun r1 => bd (ck T 2 (fR V 806 0)) (fun r5 => bd (ck T 4 (fR V 801 0)) (fun r9 => bd (Re_plan T V r1 r5 r9) f))) = f V') ∧ RC T V' L D t X lo m c n K ∧ FC V V' ∧ PlOk V' (rsF X lo (stM m) c) c.length c.length ∧ RdSh T V' ∧ fR V' 805 0 = some 32 := by
  have hX := h.2.2.2.2.2.2.2.1
  have hd := h.1.2.2.2.2.2.2.2.2.2.2
  obtain ⟨V', p1, p2, p3, p4⟩ := plan_s hcl (by omega) hX h.2.2.1 h.2.2.2.2.2.2.1
  obtain ⟨r1, r2⟩ := h.reader p2 (fun y hy => by omega)
  refine ⟨V', fun f => ?_, r1, r2, p4, r1.2.2.2.2.2.2.1, r1.1.2.2.2.2.2.2.2.1⟩
  rw [h.1.2.2.2.2.2.2.2.1, ck_s h.1.2.1, bd_s, h.1.2.2.2.2.2.2.2.2.1, ck_s hX.1.1, bd_s, h.1.2.2.2.1, ck_s h.2.2.1.1, bd_s, p1, bd_s]
theorem j_readings (h : Rel T V) : JnL T (RS_readings T V 0) (fun V1 => Mo_readings T V1 166) := by
  obtain ⟨k9, L, D, t, X, lo, m, c, n, K, Ss, hC, hM, hH⟩ := h
  obtain ⟨W, p1, p2, p3, p4, p5, p6⟩ := cplan_s hC (fun i hi => (hM.2.1.2.2 i hi).2)
  have hM1 := hM.fc p3
  obtain ⟨W2, q1, q2, q3⟩ := reckons_s hM1.1 hM1.2.1
  obtain ⟨-, -, -, -, -, -, -, -, -, -, -, -, -, ⟨u1, u2, u3⟩, -⟩ := hM1.1.1
  refine ⟨lN (tW (rsF X lo (stM m) c) c.length 0), W, W2, ?_, ?_, rel_q k9 p2 hM p3 q2 hH⟩
  · rw [RS_readings, p1, p6, ck_s hC.1.2.1, bd_s, waysInAll_s p5 p4, bd_s]
  · show Mo_readings T W 166 = _
    rw [Mo_readings, q1, bd_s, q2.1.1, u3, ck_s u1, bd_s, u2, gd_s (by decide), show (0 : Int32).toNatClampNeg = 0 from rfl, (q3.1 0 (by omega) (by omega)).1]
theorem begins_s (hm : MwAt T V X lo m) (hc : CvAt V X c) : ∃ V', FrN V V' ∧ RkAt V' (rsF X lo (stM m) c) c.length 0 ∧ MoSh T V' ∧ (tF (rsF X lo (stM m) c) c.length 0 ≥ 1000 → ∀ x, Mo_begins T V 166 x = some (-4, V')) ∧ (tF (rsF X lo (stM m) c) c.length 0 < 1000 → (∀ x, nI (tF (rsF X lo (stM m) c) c.length 0) ≤ x → Mo_begins T V 166 x = some (-4, V')) ∧ Mo_begins T V 166 (-1) = some (0, V') ∧ ∀ k, k < tF (rsF X lo (stM m) c) c.length 0 → Mo_begins T V 166 (nI k) = some (nI (bg (rsF X lo (stM m) c) c.length k), V')) := by
  obtain ⟨V', q1, q2, q3⟩ := reckons_s hm hc
  have hMS := hm.1.fr q2.1
  have hMS' := hMS
  obtain ⟨-, -, -, -, -, -, -, -, -, -, -, -, ⟨u1, u2, u3⟩, -⟩ := hMS'
  have n8 := hm.2.1.2.1
  have hle := tF_le (rsF X lo (stM m) c) c.length 0
  have hpre : ∀ x, Mo_begins T V 166 x = if 999 < tF (rsF X lo (stM m) c) c.length 0 then some (-4, V') else if x < nI (tF (rsF X lo (stM m) c) c.length 0) then Mo_begins_L33 T V' 166 x FU 0 0 else some (-4, V') := by
    intro x
    rw [Mo_begins, q1, bd_s, show inb 0 = inb (nI 0) from rfl, show (0 : Int32).toNatClampNeg = 0 from rfl, u3, ck_s u1, bd_s, u2, gd_s (inb_n (by omega) (by omega)), (q3.1 0 (by omega) (by omega)).2, show (999 : Int32) = nI 999 from rfl, if_ltn (by omega) (by omega), bd_s, u2, gd_s (inb_n (by omega) (by omega)), (q3.1 0 (by omega) (by omega)).2]
  refine ⟨V', q2, q3, hMS, fun hf x => by rw [hpre, if_pos (by omega)], fun hf => ⟨fun x hx => by rw [hpre, if_neg (by omega), if_neg (fun z => absurd hx (Int32.not_le.mpr z))], ?_, fun k hk => ?_⟩⟩
  · rw [hpre, if_neg (by omega), if_pos (Int32.lt_of_lt_of_le (by decide) (nI_pos' (show tF (rsF X lo (stM m) c) c.length 0 < 2 ^ 31 by omega)))]
    obtain ⟨f, hf'⟩ : ∃ f, FU = f + 1 := ⟨99999, rfl⟩
    rw [hf', Mo_begins_L33, if_pos (by decide)]
  · rw [hpre, if_neg (by omega), if_pos (nI_lt hk (by omega))]
    exact begins_l hMS hc.1 (fun i k => rd_lt _ _ _ _ n8) q3 hf hk k FU 0 (by omega) (by rw [← FU_big]; omega)
theorem j_cut (h : Rel T V) (x : Int32) : Jn T (RS_cut T V 0 x) (fun V1 => Mo_cut T V1 166 x) := by
  have h0 := h
  obtain ⟨k9, L, D, t, X, lo, m, c, n, K, Ss, hC, hM, hH⟩ := h
  by_cases e : x < 0
  · have e' : ¬ 0 ≤ x := fun z => absurd e (Int32.not_lt.mpr z)
    refine ⟨-1, V, V, by rw [RS_cut, if_neg e'], ?_, h0⟩
    show Mo_cut T V 166 x = _
    rw [Mo_cut, if_neg e']
  have e' : 0 ≤ x := Int32.not_lt.mp e
  obtain ⟨k, hk, rfl⟩ := nI_of e
  obtain ⟨W, p1, p2, p3, p4, p5, p6⟩ := cplan_s hC (fun i hi => (hM.2.1.2.2 i hi).2)
  have hM1 := hM.fc p3
  have c16 := hM.2.1.1
  have n8 := hM.1.2.1.2.1
  obtain ⟨W2, q2, q3, q4, q5, q6⟩ := begins_s hM1.1 hM1.2.1
  have hrel := rel_q k9 p2 hM p3 q2 hH
  have hpre : RS_cut T V 0 (nI k) = bd (Re_plannedCut T W 32 (nI k)) (fun r21 => some (r21, W)) := by
    rw [RS_cut, if_pos e', p1, p6, ck_s hC.1.2.1, bd_s]
  by_cases f1 : tF (rsF X lo (stM m) c) c.length 0 < 1000
  · obtain ⟨g1, g2, g3⟩ := q6 f1
    by_cases f2 : k < tF (rsF X lo (stM m) c) c.length 0
    · obtain ⟨i1, i2, i3⟩ := bg_spec (rsF X lo (stM m) c) c.length f1 k (by omega)
      refine ⟨nI (tC (rsF X lo (stM m) c) c.length (bg (rsF X lo (stM m) c) c.length k)), W, W2, ?_, ?_, hrel⟩
      · rw [hpre, (plannedWord_s p5 p4 c16 f1 k f2).2, bd_s]
      · show Mo_cut T W 166 (nI k) = _
        rw [Mo_cut, if_pos e', g3 k f2, bd2_s, if_neg (fun z => by
          have := nI_pos (show bg (rsF X lo (stM m) c) c.length k < 2 ^ 31 by omega)
          rw [z] at this
          exact absurd (by decide) this), rowFrom_s q4 c16 (i3 f2) (fun k => rd_lt _ _ _ _ n8) q3 (by omega), bd_s]
    · refine ⟨-4, W, W2, ?_, ?_, hrel⟩
      · rw [hpre, (plannedWord_n p5 p4 (nI k) (Or.inr (Or.inr (nI_le (by omega) hk)))).2, bd_s]
      · show Mo_cut T W 166 (nI k) = _
        rw [Mo_cut, if_pos e', g1 (nI k) (nI_le (by omega) hk), bd2_s, if_pos rfl]
  · refine ⟨-4, W, W2, ?_, ?_, hrel⟩
    · rw [hpre, (plannedWord_n p5 p4 (nI k) (Or.inl f1)).2, bd_s]
    · show Mo_cut T W 166 (nI k) = _
      rw [Mo_cut, if_pos e', q5 (by omega), bd2_s, if_pos rfl]
theorem j_reading (h : Rel T V) (x : Int32) : Jn T (RS_reading T V 0 x) (fun V1 => Mo_reading T V1 166 x) := by
  have h0 := h
  obtain ⟨k9, L, D, t, X, lo, m, c, n, K, Ss, hC, hM, hH⟩ := h
  by_cases e : -1 ≤ x
  · obtain ⟨W, p1, p2, p3, p4, p5, p6⟩ := cplan_s hC (fun i hi => (hM.2.1.2.2 i hi).2)
    have hM1 := hM.fc p3
    have c16 := hM.2.1.1
    have n8 := hM.1.2.1.2.1
    have hle := tF_le (rsF X lo (stM m) c) c.length 0
    obtain ⟨W2, q2, q3, q4, q5, q6⟩ := begins_s hM1.1 hM1.2.1
    have q4' := q4
    obtain ⟨-, -, -, -, -, -, -, -, -, -, -, -, ⟨u1, u2, u3⟩, -, ⟨v1, v2, v3⟩⟩ := q4'
    have hrel := rel_q k9 p2 hM p3 q2 hH
    have hpre : RS_reading T V 0 x = if tF (rsF X lo (stM m) c) c.length 0 < 1000 then (if x = (-1) then some (nI (tF (rsF X lo (stM m) c) c.length 0), W) else bd (Re_plannedWord T W 32 x) (fun r29 => some (r29, W))) else some (-4, W) := by
      rw [RS_reading, if_pos e, p1, p6, ck_s hC.1.2.1, bd_s, fewestWords_s p5 p4, bd_s, show (1000 : Int32) = nI 1000 from rfl, if_ltn (by omega) (by omega), bd_s]
    have hx : x = -1 ∨ ∃ k, k < 2 ^ 31 ∧ x = nI k := by
      rcases m2_cases (Int32.le_trans (by decide) e) with z | z | z
      · exact Or.inl z
      · rw [z] at e; exact absurd e (by decide)
      · exact Or.inr z
    have hm1 : ∀ r, Mo_begins T W 166 (-1) = some (r, W2) → x = -1 → Mo_reading T W 166 x = if tF (rsF X lo (stM m) c) c.length 0 ≤ 999 then some (nI (tF (rsF X lo (stM m) c) c.length 0), W2) else some (-4, W2) := by
      rintro r hr rfl
      rw [Mo_reading, if_pos e, hr, bd2_s, if_pos rfl, show inb 0 = inb (nI 0) from rfl, show (0 : Int32).toNatClampNeg = 0 from rfl, u3, ck_s u1, bd_s, u2, gd_s (inb_n (by omega) (by omega)), (q3.1 0 (by omega) (by omega)).2, show (999 : Int32) = nI 999 from rfl, if_le (by omega) (by omega), bd_s, u2, gd_s (inb_n (by omega) (by omega)), (q3.1 0 (by omega) (by omega)).2]
    by_cases f1 : tF (rsF X lo (stM m) c) c.length 0 < 1000
    · obtain ⟨g1, g2, g3⟩ := q6 f1
      rw [if_pos f1] at hpre
      rcases hx with hx | ⟨k, hk, rfl⟩
      · refine ⟨nI (tF (rsF X lo (stM m) c) c.length 0), W, W2, by rw [hpre, if_pos hx], ?_, hrel⟩
        show Mo_reading T W 166 x = _
        rw [hm1 _ g2 hx, if_pos (by omega)]
      · have z1 : ¬ nI k = -1 := nI_ne_m1 hk
        rw [if_neg z1] at hpre
        by_cases f2 : k < tF (rsF X lo (stM m) c) c.length 0
        · obtain ⟨i1, i2, i3⟩ := bg_spec (rsF X lo (stM m) c) c.length f1 k (by omega)
          have i3 := i3 f2
          obtain ⟨t1, t2, t3, t4, -⟩ := tC_spec (rsF X lo (stM m) c) c.length (bg (rsF X lo (stM m) c) c.length k) i3 (by omega)
          have hr := rd_lt X lo (stM m) ((c.drop (bg (rsF X lo (stM m) c) c.length k)).take (tC (rsF X lo (stM m) c) c.length (bg (rsF X lo (stM m) c) c.length k))) n8
          have hls := lb_some _ hr t4
          obtain ⟨w, hw⟩ := Option.isSome_iff_exists.mp hls
          have hw' : lb (rsF X lo (stM m) c (bg (rsF X lo (stM m) c) c.length k) (tC (rsF X lo (stM m) c) c.length (bg (rsF X lo (stM m) c) c.length k))) = some w := hw
          refine ⟨nI w, W, W2, ?_, ?_, hrel⟩
          · rw [hpre, (plannedWord_s p5 p4 c16 f1 k f2).1, bd_s, hw']
            rfl
          · show Mo_reading T W 166 (nI k) = _
            rw [Mo_reading, if_pos e, g3 k f2, bd2_s, if_neg z1, if_neg (fun z => by
              have := nI_pos (show bg (rsF X lo (stM m) c) c.length k < 2 ^ 31 by omega)
              rw [z] at this
              exact absurd (by decide) this), v3, ck_s v1, bd_s, rowFrom_s q4 c16 i3 (fun k => rd_lt _ _ _ _ n8) q3 (by omega), bd_s, ix10, v2, gd_s (inb_n (by omega) (by omega)), lt, cl_n (by omega), q3.2 _ _ (by omega) t1 t2 t3]
            exact lowbit_l W2 hr 8 FU 0 (by omega) (by rw [← FU_big]; omega) hw
        · refine ⟨-4, W, W2, ?_, ?_, hrel⟩
          · rw [hpre, (plannedWord_n p5 p4 (nI k) (Or.inr (Or.inr (nI_le (by omega) hk)))).1, bd_s]
          · show Mo_reading T W 166 (nI k) = _
            rw [Mo_reading, if_pos e, g1 (nI k) (nI_le (by omega) hk), bd2_s, if_neg z1, if_pos rfl]
    · rw [if_neg f1] at hpre
      refine ⟨-4, W, W2, hpre, ?_, hrel⟩
      show Mo_reading T W 166 x = _
      rcases hx with hx | ⟨k, hk, rfl⟩
      · rw [hm1 _ (q5 (by omega) (-1)) hx, if_neg (by omega)]
      · rw [Mo_reading, if_pos e, q5 (by omega), bd2_s, if_neg (nI_ne_m1 hk), if_pos rfl]
  · refine ⟨-1, V, V, by rw [RS_reading, if_neg e], ?_, h0⟩
    show Mo_reading T V 166 x = _
    rw [Mo_reading, if_neg e]
end JR
