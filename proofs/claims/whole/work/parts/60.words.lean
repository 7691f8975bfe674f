/-! ===== sign, word, least, mark, writings, carved ===== -/
def JnL (T : Tx) (o : Option (Int64 × Vx)) (g : Vx → Option (Int64 × Vx)) : Prop := ∃ r V1 V2, o = some (r, V1) ∧ g V1 = some (r, V2) ∧ Rel T V2
theorem rng_cases (y : Int32) (N : Nat) (hN : N < 2 ^ 31) : (y < 0 ∨ nI N < y) ∨ ∃ j, j ≤ N ∧ y = nI j := by
  by_cases h : y < 0
  · exact Or.inl (Or.inl h)
  · obtain ⟨j, hj, rfl⟩ := nI_of h
    by_cases e : j ≤ N
    · exact Or.inr ⟨j, e, rfl⟩
    · exact Or.inl (Or.inr (nI_lt (by omega) hj))
theorem rng_ne {y : Int32} {N : Nat} (h : y < 0 ∨ nI N < y) (j : Nat) (hj : j ≤ N) (hN : N < 2 ^ 31) : ¬ y = nI j := by
  rintro rfl
  rcases h with h | h
  · exact nI_pos (by omega) h
  · rw [nI_ltI (by omega) (by omega)] at h; omega
section JQ
variable {T : Tx} {V V1 V2 : Vx} {L D : Nat} {t : List Nat} {X : Lex} {lo : Bool} {m : Nat} {c : List Nat} {n : Nat} {K : Nat → Nat × Nat} {Ss : Nat → Snap}
theorem rel_q (k9 : kd T 166 = 9) (hC : RC T V1 L D t X lo m c n K) (hM : RM T V t X lo m c n Ss) (hf : FC V V1) (hn : FrN V1 V2) (hH : CHn X n K Ss (lo, m, c)) : Rel T V2 :=
  ⟨k9, L, D, t, X, lo, m, c, n, K, Ss, hC.fr hn.up (fun y hy => hy), (hM.fc hf).frn hn, hH⟩
theorem j_sign (h : Rel T V) (x y : Int32) : Jn T (RS_sign T V 0 x y) (fun V1 => Mo_sign T V1 166 x y) := by
  have h0 := h
  obtain ⟨k9, L, D, t, X, lo, m, c, n, K, Ss, hC, hM, hH⟩ := h
  have hp := hC.1
  obtain ⟨b1, b2, b3, b4, b5, b6, b7, b8, b9, d1, d2⟩ := hp
  have hX := hC.2.2.2.2.2.2.2.1
  have n12 := hX.2.1.1
  rcases sg_cases x (ns X) (by omega) with ⟨s, hsx, rfl⟩ | hx
  · obtain ⟨k1, k2, k3, k4, k5, k6, k7⟩ := hX.sgn hsx
    obtain ⟨o1, o2, -⟩ := hX.2.1.2.2.1 s hsx
    obtain ⟨-, ⟨c1, c2, c3⟩, -⟩ := hM.1.1
    obtain ⟨z1, z2, z3, z4⟩ := hM.1.2.2.1.2.2.1 s hsx
    rcases rng_cases y 4 (by omega) with hy | ⟨j, hj, rfl⟩
    · refine ⟨-1, V, V, ?_, ?_, h0⟩
      · rw [RS_sign, b9, ck_s hX.1.1, bd_s, signAt_s hX hsx, bd_s]
        dsimp only
        rw [if_neg (show ¬ y = 0 from rng_ne hy 0 (by omega) (by omega)), if_neg (show ¬ y = 1 from rng_ne hy 1 (by omega) (by omega)), if_neg (show ¬ y = 2 from rng_ne hy 2 (by omega) (by omega)), if_neg (show ¬ y = 3 from rng_ne hy 3 (by omega) (by omega)), if_neg (show ¬ y = 4 from rng_ne hy 4 (by omega) (by omega))]
      · show Mo_sign T V 166 (nI s) y = _
        rw [Mo_sign, isSign_t hM.1 hsx, bd_s, if_neg (by decide), in_f T V (a := 0) (a' := 0) (b := nI 4) (b' := 4) rfl rfl hy, bd_s, if_pos rfl]
    · have hpre : RS_sign T V 0 (nI s) (nI j) = (if nI j = 0 then some ((fI V 601 (L + 3 + 3 * s)), V) else if nI j = 1 then (if (fI V 601 (L + 3 + 3 * s)) = 1 then some ((-4), V) else some ((fI V 602 (L + 3 + 3 * s)), V)) else if nI j = 2 then some (nI (su X s).length, V) else if nI j = 3 then (if (fI V 603 (L + 3 + 3 * s)) = 0 then some (0, V) else some (1, V)) else if nI j = 4 then bd2 (RS_leastWritingsWith T V 0 (nI s)) (fun r39 V38 => some (r39, V38)) else some ((-1), V)) := by
        rw [RS_sign, b9, ck_s hX.1.1, bd_s, signAt_s hX hsx, bd_s]
        dsimp only
        rw [ck_s k1, bd_s, bd_s, bd_s, k2, ck_s k3, bd_s, Le_size_s k7, bd_s, bd_s]
      have hmre : ∀ V1, RM T V1 t X lo m c n Ss → Mo_sign T V1 166 (nI s) (nI j) = (if 3 ≤ nI j then (if nI j = 3 then some (bi (stM m s), V1) else bd2 (Mo_leastWith T V1 166 (nI s)) (fun r11 V10 => some (r11, V10))) else some (aI V1 168 (7 * s + j), V1)) := by
        intro V1 hm
        obtain ⟨-, ⟨c1, c2, c3⟩, -⟩ := hm.1.1
        rw [Mo_sign, isSign_t hm.1 hsx, bd_s, if_neg (by decide), in_t T V1 (a := 0) (a' := 0) (b := nI 4) (b' := 4) rfl rfl (n_lt (by omega)) (by rw [nI_ltI (by omega) (by omega)]; omega), bd_s, if_neg (by decide), isStruck_s hm.1 (by omega), bd_s, c3, ck_s c1, bd_s, ixS, nI_add, c2, gd_s (inb_n (by omega) (by omega)), cl_n (by omega), show (if bi (stM m s) = 0 then some ((0 : Int32), V1) else some (1, V1)) = some (bi (stM m s), V1) by cases stM m s <;> rfl]
      have hj5 : j = 0 ∨ j = 1 ∨ j = 2 ∨ j = 3 ∨ j = 4 := by omega
      rcases hj5 with rfl | rfl | rfl | rfl | rfl
      · refine ⟨nI (sk X s), V, V, ?_, ?_, h0⟩
        · rw [hpre, if_pos nI_0, k4]
        · show Mo_sign T V 166 (nI s) (nI 0) = _
          rw [hmre V hM, if_neg (by decide)]
          rw [Nat.add_zero, z1]
      · refine ⟨if sk X s = 1 then -4 else nI (sc X s), V, V, ?_, ?_, h0⟩
        · rw [hpre, if_neg (by decide), if_pos (by decide), k4, k5, show (1 : Int32) = nI 1 from rfl, if_eqn (by omega) (by omega)]
          by_cases e : sk X s = 1
          · rw [if_pos e, if_pos e]
          · rw [if_neg e, if_neg e]
        · show Mo_sign T V 166 (nI s) (nI 1) = _
          rw [hmre V hM, if_neg (by decide), z2]
      · refine ⟨nI (su X s).length, V, V, ?_, ?_, h0⟩
        · rw [hpre, if_neg (by decide), if_neg (by decide), if_pos (by decide)]
        · show Mo_sign T V 166 (nI s) (nI 2) = _
          rw [hmre V hM, if_neg (by decide), z3]
      · refine ⟨bi (stM m s), V, V, ?_, ?_, h0⟩
        · rw [hpre, if_neg (by decide), if_neg (by decide), if_neg (by decide), if_pos (by decide), k6]
          cases stM m s <;> rfl
        · show Mo_sign T V 166 (nI s) (nI 3) = _
          rw [hmre V hM, if_pos (by decide), if_pos (by decide)]
      · obtain ⟨W, p1, p2, p3⟩ := csettle_s hC
        have hM1 := hM.fc p3
        obtain ⟨W2, q1, q2⟩ := leastWith_s (c := s) (by omega) hM1.1
        have hl := lww_l p2 (s := s) (by omega) (nw X) FU 0 0 (by omega) (by have := hX.2.1.2.1; rw [← FU_big]; omega)
        rw [Nat.zero_add] at hl
        refine ⟨nI (ctF (fun w => hs (lsW X lo (stM m) w) s) (nw X) 0), W, W2, ?_, ?_, rel_q k9 p2.1 hM p3 q2 hH⟩
        · rw [hpre, if_neg (by decide), if_neg (by decide), if_neg (by decide), if_neg (by decide), if_pos (by decide), RS_leastWritingsWith, p1, show (0 : Int32) = nI 0 from rfl, hl, bd2_s]
        · show Mo_sign T W 166 (nI s) (nI 4) = _
          rw [hmre W hM1, if_pos (by decide), if_neg (by decide), q1, bd2_s]
  · refine ⟨-1, V, V, ?_, ?_, h0⟩
    · rw [RS_sign, b9, ck_s hX.1.1, bd_s, signAt_n hX hx, bd_s]
    · show Mo_sign T V 166 x y = _
      rw [Mo_sign, isSign_f hM.1 hx, bd_s, if_pos rfl]
theorem word27 {w : Nat} (h : MwAt T V X lo m) (hw : w < nw X) (p2 : Int32) : ∀ (d k a j : Nat), j + d = (wl X w).length → d < k → Mo_word_L27 T V 166 (nI w) p2 k (nI a) (nI j) = some (nI (a + ctF (fun i => isV (ch (wl X w) i)) d j)) := by
  have h8 := (h.2.1.2.2.2.1 w hw).2.2
  intro d
  induction d with
  | zero =>
    intro k a j hj hk
    obtain ⟨k, rfl⟩ : ∃ m, k = m + 1 := ⟨k - 1, by omega⟩
    rw [Mo_word_L27, long1_s h hw, bd_s, if_le (by omega) (by omega), if_pos (by omega)]
    rfl
  | succ d ih =>
    intro k a j hj hk
    obtain ⟨k, rfl⟩ : ∃ m, k = m + 1 := ⟨k - 1, by omega⟩
    rw [Mo_word_L27, long1_s h hw, bd_s, if_le (by omega) (by omega), if_neg (by omega), isVowel_s h hw (by omega), bd_s, if_bi, lt, lt, show nI a + 0 = nI a from nI_add a 0, nI_1, nI_1, ih k a (j + 1) (by omega) (by omega), ih k (a + 1) (j + 1) (by omega) (by omega), ctF]
    by_cases e : isV (ch (wl X w) j) = true
    · rw [if_pos e, if_pos e]; congr 2; omega
    · rw [if_neg e, if_neg e]; congr 2; omega
theorem j_word (h : Rel T V) (x y : Int32) : Jn T (RS_word T V 0 x y) (fun V1 => Mo_word T V1 166 x y) := by
  have h0 := h
  obtain ⟨k9, L, D, t, X, lo, m, c, n, K, Ss, hC, hM, hH⟩ := h
  have hp := hC.1
  obtain ⟨b1, b2, b3, b4, b5, b6, b7, b8, b9, d1, d2⟩ := hp
  have hX := hC.2.2.2.2.2.2.2.1
  have n8 := hX.2.1.2.1
  rcases sg_cases x (nw X) (by omega) with ⟨w, hw, rfl⟩ | hx
  · obtain ⟨k1, k2, k3, k4, k5⟩ := hX.wrd hw
    have l8 := (hX.2.1.2.2.2.1 w hw).2.2
    obtain ⟨z1, z2, z3⟩ := hM.1.2.2.1.2.2.2 w hw
    rcases rng_cases y 4 (by omega) with hy | ⟨j, hj, rfl⟩
    · refine ⟨-1, V, V, ?_, ?_, h0⟩
      · rw [RS_word, b9, ck_s hX.1.1, bd_s, wordAt_s hX hw, bd_s]
        dsimp only
        rw [if_neg (show ¬ y = 0 from rng_ne hy 0 (by omega) (by omega)), if_neg (show ¬ y = 1 from rng_ne hy 1 (by omega) (by omega)), if_neg (show ¬ y = 2 from rng_ne hy 2 (by omega) (by omega)), if_neg (show ¬ y = 3 from rng_ne hy 3 (by omega) (by omega)), if_neg (show ¬ y = 4 from rng_ne hy 4 (by omega) (by omega))]
      · show Mo_word T V 166 (nI w) y = _
        rw [Mo_word, isWord_t hM.1 hw, bd_s, if_neg (by decide), in_f T V (a := 0) (a' := 0) (b := nI 4) (b' := 4) rfl rfl hy, bd_s, if_pos rfl]
    · have hpre : RS_word T V 0 (nI w) (nI j) = (if nI j = 0 then some (nI (wc X w), V) else if nI j = 1 then some (nI (wl X w).length, V) else if nI j = 2 then some (nI (ctF (fun i => isV (ch (wl X w) i)) (wl X w).length 0), V) else if nI j = 3 then bd (ck T 5 (fR V 804 0)) (fun r36 => bd (ck T 2 (fR V 806 0)) (fun r40 => bd (Sc_settle T V r36 r40) (fun V45 => bd2 (RS_clearness T V45 0 (nI w)) (fun r48 V47 => some (r48, V47))))) else if nI j = 4 then bd (ck T 5 (fR V 804 0)) (fun r51 => bd (ck T 2 (fR V 806 0)) (fun r55 => bd (Sc_settle T V r51 r55) (fun V60 => bd (RS_mixedWith T V60 0 (nI w) 0) (fun r62 => some (r62, V60))))) else some ((-1), V)) := by
        rw [RS_word, b9, ck_s hX.1.1, bd_s, wordAt_s hX hw, bd_s]
        dsimp only
        rw [ck_s k1, bd_s, bd_s, bd_s, k2, ck_s k3, bd_s, Le_size_s k5, bd_s, bd_s, Le_vowels_s k5, bd_s, k4]
      have hmre : ∀ V1, RM T V1 t X lo m c n Ss → Mo_word T V1 166 (nI w) (nI j) = (if 2 ≤ nI j then (if nI j = 2 then some (nI (ctF (fun i => isV (ch (wl X w) i)) (wl X w).length 0), V1) else (if nI j = 3 then bd2 (Mo_clear T V1 166 (nI w)) (fun r33 V32 => some (r33, V32)) else bd2 (Mo_mixed T V1 166 (nI w)) (fun r30 V29 => some (r30, V29)))) else some (aI V1 168 (84 + 10 * w + j), V1)) := by
        intro V1 hm
        obtain ⟨-, ⟨c1, c2, c3⟩, -⟩ := hm.1.1
        have := word27 hm.1 hw (nI j) (wl X w).length FU 0 0 (by omega) (by rw [← FU_big]; omega)
        rw [Nat.zero_add] at this
        rw [Mo_word, isWord_t hm.1 hw, bd_s, if_neg (by decide), in_t T V1 (a := 0) (a' := 0) (b := nI 4) (b' := 4) rfl rfl (n_lt (by omega)) (by rw [nI_ltI (by omega) (by omega)]; omega), bd_s, if_neg (by decide), show Mo_word_L27 T V1 166 (nI w) (nI j) FU 0 0 = some (nI (ctF (fun i => isV (ch (wl X w) i)) (wl X w).length 0)) from this, bd_s, c3, ck_s c1, bd_s, ixW, nI_add, c2, gd_s (inb_n (by omega) (by omega)), cl_n (by omega)]
      have hj5 : j = 0 ∨ j = 1 ∨ j = 2 ∨ j = 3 ∨ j = 4 := by omega
      rcases hj5 with rfl | rfl | rfl | rfl | rfl
      · refine ⟨nI (wc X w), V, V, ?_, ?_, h0⟩
        · rw [hpre, if_pos nI_0]
        · show Mo_word T V 166 (nI w) (nI 0) = _
          rw [hmre V hM, if_neg (by decide), Nat.add_zero, z1]
      · refine ⟨nI (wl X w).length, V, V, ?_, ?_, h0⟩
        · rw [hpre, if_neg (by decide), if_pos (by decide)]
        · show Mo_word T V 166 (nI w) (nI 1) = _
          rw [hmre V hM, if_neg (by decide), z2]
      · refine ⟨nI (ctF (fun i => isV (ch (wl X w) i)) (wl X w).length 0), V, V, ?_, ?_, h0⟩
        · rw [hpre, if_neg (by decide), if_neg (by decide), if_pos (by decide)]
        · show Mo_word T V 166 (nI w) (nI 2) = _
          rw [hmre V hM, if_pos (by decide), if_pos (by decide)]
      · obtain ⟨W, p1, p2, p3⟩ := csettle_s hC
        obtain ⟨W1, r1, r2, r3⟩ := clearness_s p2 hw
        have hf := p3.tr r3
        have hM1 := hM.fc hf
        obtain ⟨W2, q1, q2⟩ := clear_s hw hM1.1
        refine ⟨nI (clr X lo (stM m) w), W1, W2, ?_, ?_, rel_q k9 r2.1 hM hf q2 hH⟩
        · rw [hpre, if_neg (by decide), if_neg (by decide), if_neg (by decide), if_pos (by decide), p1, r1, bd2_s]
        · show Mo_word T W1 166 (nI w) (nI 3) = _
          rw [hmre W1 hM1, if_pos (by decide), if_neg (by decide), if_pos (by decide), q1, bd2_s]
      · obtain ⟨W, p1, p2, p3⟩ := csettle_s hC
        have hM1 := hM.fc p3
        obtain ⟨W2, q1, q2⟩ := mixed_s hw hM1.1
        have hmx := mixedWith_s p2 hw (Nat.zero_le _)
        refine ⟨nI (mxN X lo (stM m) w (nw X) 0), W, W2, ?_, ?_, rel_q k9 p2.1 hM p3 q2 hH⟩
        · rw [hpre, if_neg (by decide), if_neg (by decide), if_neg (by decide), if_neg (by decide), if_pos (by decide), p1, show (0 : Int32) = nI 0 from rfl, hmx, bd_s, Nat.sub_zero]
        · show Mo_word T W 166 (nI w) (nI 4) = _
          rw [hmre W hM1, if_pos (by decide), if_neg (by decide), if_neg (by decide), q1, bd2_s]
  · refine ⟨-1, V, V, ?_, ?_, h0⟩
    · rw [RS_word, b9, ck_s hX.1.1, bd_s, wordAt_n hX hx, bd_s]
    · show Mo_word T V 166 x y = _
      rw [Mo_word, isWord_f hM.1 hx, bd_s, if_pos rfl]
theorem j_mark (h : Rel T V) (x : Int32) : Jn T (RS_mark T V 0 x) (fun V1 => Mo_mark T V1 166 x) := by
  have h0 := h
  obtain ⟨k9, L, D, t, X, lo, m, c, n, K, Ss, hC, hM, hH⟩ := h
  have hp := hC.1
  obtain ⟨b1, b2, b3, b4, b5, b6, b7, b8, b9, d1, d2⟩ := hp
  have hX := hC.2.2.2.2.2.2.2.1
  have n8 := hX.2.1.2.1
  rcases sg_cases x (nw X) (by omega) with ⟨w, hw, rfl⟩ | hx
  · obtain ⟨k1, k2, k3, k4, k5⟩ := hX.wrd hw
    have w5 := (hX.2.1.2.2.2.1 w hw).1
    obtain ⟨W, p1, p2, p3⟩ := csettle_s hC
    obtain ⟨W1, r1, r2, r3⟩ := clearness_s p2 hw
    have hf := p3.tr r3
    have hM1 := hM.fc hf
    obtain ⟨W2, q1, q2⟩ := clear_s hw hM1.1
    have hX1 := r2.1.2.2.2.2.2.2.2.1
    have hM2 := hM1.frn q2
    obtain ⟨-, ⟨c1, c2, c3⟩, -⟩ := hM2.1.1
    obtain ⟨z1, z2, z3⟩ := hM2.1.2.2.1.2.2.2 w hw
    have cl2 : clr X lo (stM m) w ≤ 2 := by
      unfold clr
      split
      · omega
      · split
        · omega
        · split
          · omega
          · split <;> omega
    have hpre : RS_mark T V 0 (nI w) = bd (ck T 5 (fR V 804 0)) (fun r8 => bd (ck T 2 (fR V 806 0)) (fun r12 => bd (Sc_settle T V r8 r12) (fun V17 => bd2 (RS_clearness T V17 0 (nI w)) (fun r20 V19 => (if r20 = 2 then bd (ck T 2 (fR V19 806 0)) (fun r22 => bd (ck T 7 (some (L + 39 + 3 * w))) (fun _ => bd (Lx_lowestMark T V19 r22 (fI V19 701 (L + 39 + 3 * w))) (fun r30 => some (r30, V19)))) else some ((-4), V19)))))) := by
      rw [RS_mark, b9, ck_s hX.1.1, bd_s, wordAt_s hX hw, bd_s]
    refine ⟨if clr X lo (stM m) w = 2 then oI (fsF (mk X (stM m) (wc X w)) (ns X) 0) else -4, W1, W2, ?_, ?_, rel_q k9 r2.1 hM hf q2 hH⟩
    · rw [hpre, p1, r1, bd2_s, r2.1.1.2.2.2.2.2.2.2.2.1, ck_s hX.1.1, bd_s, ck_s k1, bd_s, (hX1.wrd hw).2.2.2.1, lowestMark_s hX1 _ (by omega), bd_s, show (2 : Int32) = nI 2 from rfl, if_eqn (by omega) (by omega)]
      by_cases e : clr X lo (stM m) w = 2
      · rw [if_pos e, if_pos e]
      · rw [if_neg e, if_neg e]
    · show Mo_mark T W1 166 (nI w) = _
      rw [Mo_mark, isWord_t hM1.1 hw, bd_s, if_neg (by decide), q1, bd2_s, c3, ck_s c1, bd_s, ixW, c2, gd_s (inb_n (by omega) (by omega)), cl_n (by omega), z1, markOf_s hM2.1 (by omega), bd_s, show (2 : Int32) = nI 2 from rfl, if_eqn (by omega) (by omega)]
      by_cases e : clr X lo (stM m) w = 2
      · rw [if_pos e, if_pos e]
      · rw [if_neg e, if_neg e]
  · refine ⟨-1, V, V, ?_, ?_, h0⟩
    · rw [RS_mark, b9, ck_s hX.1.1, bd_s, wordAt_n hX hx, bd_s]
    · show Mo_mark T V 166 x = _
      rw [Mo_mark, isWord_f hM.1 hx, bd_s, if_pos rfl]
theorem j_writings (h : Rel T V) (x : Int32) : JnL T (RS_writings T V 0 x) (fun V1 => Mo_writings T V1 166 x) := by
  have h0 := h
  obtain ⟨k9, L, D, t, X, lo, m, c, n, K, Ss, hC, hM, hH⟩ := h
  have hp := hC.1
  obtain ⟨b1, b2, b3, b4, b5, b6, b7, b8, b9, d1, d2⟩ := hp
  have hX := hC.2.2.2.2.2.2.2.1
  have n8 := hX.2.1.2.1
  have n12 := hX.2.1.1
  have hS := hC.2.2.2.2.2.1
  rcases sg_cases x (nw X) (by omega) with ⟨w, hw, rfl⟩ | hx
  · obtain ⟨k1, k2, k3, k4, k5⟩ := hX.wrd hw
    have w5 := (hX.2.1.2.2.2.1 w hw).1
    obtain ⟨W, p1, p2, p3⟩ := rowsOfSounds_s hw (by omega) hX hS.1
    have hF : FC V W := FC.of p2 (fun y hy => by omega)
    have hS1 : ScOk T W X lo (stM m) := by
      refine ⟨hS.1.fr p2, ?_⟩
      rw [p3]
      rcases hS.2 with z | ⟨z1, z2⟩
      · exact Or.inl z
      · exact Or.inr ⟨z1, fun v hv => (z2 v hv).fr p2 (by omega) (by omega)⟩
    have hC1 := hC.frq p2 (fun y hy => by omega) hS1
    have hX1 := hC1.2.2.2.2.2.2.2.1
    have hM1 := hM.fc hF
    obtain ⟨W2, q1, q2⟩ := mwritings_s hw hM1.1
    have ct := ctF_le (mk X (stM m) (wc X w)) (ns X) 0
    refine ⟨lN (wrN X lo (stM m) w), W, W2, ?_, ?_, rel_q k9 hC1 hM hF q2 hH⟩
    · rw [RS_writings, b9, ck_s hX.1.1, bd_s, wordAt_s hX hw, bd_s]
      dsimp only
      rw [b7, ck_s hS.1.1, bd_s, bd_s, ck_s k1, bd_s, p1, bd2_s, hC1.1.2.2.2.2.2.2.2.2.1, ck_s hX.1.1, bd_s, (hX1.wrd hw).2.2.2.1, marksOf_s hX1 _ (by omega), bd_s, show (1 : Int32) = nI 1 from rfl, nI_add, nI_l (by omega), lN_mul]
      rfl
    · show Mo_writings T W 166 (nI w) = _
      rw [Mo_writings, isWord_t hM1.1 hw, bd_s, if_neg (by decide), q1]
  · refine ⟨-1, V, V, ?_, ?_, h0⟩
    · rw [RS_writings, b9, ck_s hX.1.1, bd_s, wordAt_n hX hx, bd_s]
    · show Mo_writings T V 166 x = _
      rw [Mo_writings, isWord_f hM.1 hx, bd_s, if_pos rfl]
theorem j_carved (h : Rel T V) (x : Int32) : ∃ r, RS_carved T V 0 x = some r ∧ Mo_carved T V 166 x = some r := by
  obtain ⟨k9, L, D, t, X, lo, m, c, n, K, Ss, hC, hM, hH⟩ := h
  have hR := hC.2.2.1
  obtain ⟨-, -, -, ⟨g1, g2, g3⟩, -⟩ := hM.1.1
  obtain ⟨u1, u2, u3⟩ := hM.2.1
  by_cases e : x < 0
  · exact ⟨-1, by rw [RS_carved, if_neg (fun z => absurd e (Int32.not_lt.mpr z))], by rw [Mo_carved, if_neg (fun z => absurd e (Int32.not_lt.mpr z))]⟩
  · have hpre : RS_carved T V 0 x = bd (Ro_at T V 3 x) (fun r7 => some r7) := by
      rw [RS_carved, if_pos (Int32.not_lt.mp e), hC.1.2.2.2.1, ck_s hR.1, bd_s]
    obtain ⟨j, hj, rfl⟩ := nI_of e
    have hmre : Mo_carved T V 166 (nI j) = if c.length ≤ j then some (-4) else gd (inb (3 + nI j) 19) (some (aI V 170 (3 + nI j).toNatClampNeg)) := by
      rw [Mo_carved, if_pos (Int32.not_lt.mp e), g3, ck_s g1, bd_s, show (2 : Int32) = nI 2 from rfl, g2, gd_s (inb_n (by omega) (by omega)), cl_n (by omega), u2, if_le (by omega) (by omega), bd_s, g2]
    by_cases e2 : c.length ≤ j
    · exact ⟨-4, by rw [hpre, Ro_at_n hR (nI j) (Or.inr (nI_le e2 hj)), bd_s], by rw [hmre, if_pos e2]⟩
    · refine ⟨nI (ch c j), by rw [hpre, Ro_at_s hR j (by omega), bd_s], ?_⟩
      rw [hmre, if_neg e2, show (3 : Int32) = nI 3 from rfl, nI_add, gd_s (inb_n (by omega) (by omega)), cl_n (by omega), (u3 j (by omega)).1]
end JQ
