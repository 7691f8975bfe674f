/-! ===== strike, law, carve, chip, undo ===== -/
theorem xor_n (a b : Nat) : nI a ^^^ nI b = nI (a ^^^ b) := by
  apply Int32.toBitVec_inj.mp
  show BitVec.ofNat 32 a ^^^ BitVec.ofNat 32 b = BitVec.ofNat 32 (a ^^^ b)
  apply BitVec.eq_of_toNat_eq
  simp [Nat.xor_mod_two_pow]
theorem bi_eq (a b : Bool) : bi a = bi b ↔ a = b := by cases a <;> cases b <;> simp [bi]
theorem if_bie {α : Type} (a b : Bool) (x y : α) : (if bi a = bi b then x else y) = if a = b then x else y := by
  by_cases e : a = b
  · rw [if_pos e, if_pos ((bi_eq a b).mpr e)]
  · rw [if_neg e, if_neg (fun z => e ((bi_eq a b).mp z))]
theorem zo_cases {y : Int32} (h1 : ¬ y < 0) (h2 : y ≤ 1) : ∃ b : Bool, y = bi b := by
  obtain ⟨j, hj, rfl⟩ := nI_of h1
  rw [show (1 : Int32) = nI 1 from rfl, nI_leI (by omega) (by omega)] at h2
  have : j = 0 ∨ j = 1 := by omega
  rcases this with rfl | rfl
  · exact ⟨false, rfl⟩
  · exact ⟨true, rfl⟩
theorem bi_1 (b : Bool) : (if bi b = 1 then (some 1 : Option Int32) else some 0) = some (bi b) := by cases b <;> rfl
theorem bi_0 (b : Bool) : (if bi b = 0 then (some 1 : Option Int32) else some 0) = some (bi (!b)) := by cases b <;> rfl
theorem bi_01 (b : Bool) : (if bi b = 0 then (some 0 : Option Int32) else some 1) = some (bi b) := by cases b <;> rfl
section CG
variable {T : Tx} {V V' : Vx} {L D : Nat} {t : List Nat} {X : Lex} {lo : Bool} {m : Nat} {c : List Nat} {n : Nat} {K : Nat → Nat × Nat} {Ss : Nat → Snap}
theorem LexAt.turn {st : Nat → Bool} (h : LexAt T V L X lo st) {s : Nat} (hs : s < ns X) (b : Bool) : LexAt T (sI V 603 (L + 3 + 3 * s) (bi b)) L X lo (fun i => if i = s then b else st i) := by
  obtain ⟨h1, h2, h3, h4, h5, h6, h7⟩ := h
  have n12 := h2.1
  have hF : Fr (fun y => y = L + 3 + 3 * s) V (sI V 603 (L + 3 + 3 * s) (bi b)) := Fr.sI _ _ _ _ rfl
  refine ⟨LexAt.sh' h1 hF, h2, by rw [fI_sI, if_neg (fun z => absurd z.1 (by decide))]; exact h3, by rw [fI_sI, if_neg (fun z => absurd z.1 (by decide))]; exact h4, by rw [fI_sI, if_neg (fun z => absurd z.1 (by decide))]; exact h5, fun i hi => ?_, fun w hw => ?_⟩
  · obtain ⟨z1, z2, z3, z4⟩ := h6 i hi
    refine ⟨by rw [fI_sI, if_neg (fun z => absurd z.1 (by decide))]; exact z1, by rw [fI_sI, if_neg (fun z => absurd z.1 (by decide))]; exact z2, ?_, z4.fr hF (by omega) (by omega)⟩
    show fI (sI V 603 (L + 3 + 3 * s) (bi b)) 603 (L + 3 + 3 * i) = bi (if i = s then b else st i)
    rw [fI_sI]
    by_cases e : i = s
    · rw [if_pos ⟨rfl, by omega⟩, if_pos e]
    · rw [if_neg (fun z => by omega), if_neg e]; exact z3
  · obtain ⟨z1, z4⟩ := h7 w hw
    exact ⟨by rw [fI_sI, if_neg (fun z => absurd z.1 (by decide))]; exact z1, z4.fr hF (by omega) (by omega)⟩
theorem LexAt.lawt {st : Nat → Bool} (h : LexAt T V L X lo st) (b : Bool) : LexAt T (sI V 204 L (bi b)) L X b st := by
  obtain ⟨h1, h2, h3, h4, h5, h6, h7⟩ := h
  have hF : Fr (fun y => y = L) V (sI V 204 L (bi b)) := Fr.sI _ _ _ _ rfl
  refine ⟨LexAt.sh' h1 hF, h2, by rw [fI_sI, if_neg (fun z => absurd z.1 (by decide))]; exact h3, by rw [fI_sI, if_neg (fun z => absurd z.1 (by decide))]; exact h4, by rw [fI_sI, if_pos ⟨rfl, rfl⟩], fun i hi => ?_, fun w hw => ?_⟩
  · obtain ⟨z1, z2, z3, z4⟩ := h6 i hi
    exact ⟨by rw [hF.2.2.1 _ _ (by omega)]; exact z1, by rw [hF.2.2.1 _ _ (by omega)]; exact z2, by rw [hF.2.2.1 _ _ (by omega)]; exact z3, z4.fr hF (by omega) (by omega)⟩
  · obtain ⟨z1, z4⟩ := h7 w hw
    exact ⟨by rw [hF.2.2.1 _ _ (by omega)]; exact z1, z4.fr hF (by omega) (by omega)⟩
/-- the laid lexicon changes, the least writings are forgotten -/
theorem RC.lexc (h : RC T V L D t X lo m c n K) {lo' : Bool} {m' : Nat} (hF : Fr (fun y => L ≤ y ∧ y < L + 63) V V') (hX : LexAt T V' L X lo' (stM m')) : RC T (sI V' 505 10 0) L D t X lo' m' c n K ∧ FC V (sI V' 505 10 0) := by
  obtain ⟨a1, a2, a3, a4, a5, a6, a7, a8, a9⟩ := h
  have hd := a1.2.2.2.2.2.2.2.2.2.2
  have hF2 : Fr (fun y => y = 10) V' (sI V' 505 10 0) := Fr.sI _ _ _ _ rfl
  have hG : Fr (fun y => y = 10 ∨ (L ≤ y ∧ y < L + 63)) V (sI V' 505 10 0) := (hF.mo (fun y hy => Or.inr hy)).tr (hF2.mo (fun y hy => Or.inl hy))
  exact ⟨⟨a1.fr hG, a2.fr hG (by omega) (by omega), a3.fr hG (by omega) (by omega), a4.fr hG, a5.fr hG (by omega) (by omega) (by omega), ⟨a6.1.fr hG, Or.inl (by rw [fI_sI, if_pos ⟨rfl, rfl⟩])⟩, a7.fr hG, hX.fr hF2 (fun a h1 h2 => by omega), LexAt.sh' a9 hG⟩, FC.of hG (fun y hy => by omega)⟩
theorem turn_s (h : RC T V L D t X lo m c n K) {s : Nat} (hs : s < ns X) : ∃ V', RS_turn T V 0 (some (L + 3 + 3 * s)) = some V' ∧ RC T V' L D t X lo (m ^^^ 2 ^ s) c n K ∧ FC V V' := by
  have n12 := h.2.2.2.2.2.2.2.1.2.1.1
  have hX := h.2.2.2.2.2.2.2.1
  obtain ⟨k1, k2, k3, k4, k5, k6, k7⟩ := hX.sgn hs
  have hT := hX.turn hs (!(stM m s))
  rw [show (fun i => if i = s then !(stM m s) else stM m i) = stM (m ^^^ 2 ^ s) from funext fun i => (stM_xor m s i).symm] at hT
  obtain ⟨r1, r2⟩ := h.lexc (V' := sI V 603 (L + 3 + 3 * s) (bi (!(stM m s)))) (Fr.sI _ _ _ _ (by omega)) hT
  refine ⟨_, ?_, r1, r2⟩
  rw [RS_turn, k6, bi_0, bd_s, gd_s (zo_bi _), lt, fR_sI, h.1.2.2.2.2.2.2.1, ck_s h.2.2.2.2.2.1.1.1, bd_s, Sc_forget, lt, bd_s]
theorem turnLaw_s (h : RC T V L D t X lo m c n K) : ∃ V', RS_turnLaw T V 0 = some V' ∧ RC T V' L D t X (!lo) m c n K ∧ FC V V' := by
  have hX := h.2.2.2.2.2.2.2.1
  obtain ⟨r1, r2⟩ := h.lexc (V' := sI V 204 L (bi (!lo))) (Fr.sI _ _ _ _ (by omega)) (hX.lawt (!lo))
  refine ⟨_, ?_, r1, r2⟩
  rw [RS_turnLaw, h.1.2.2.2.2.2.2.2.2.1, ck_s hX.1.1, bd_s, bd_s, hX.2.2.2.2.1, bi_0, bd_s, gd_s (zo_bi _), lt, fR_sI, h.1.2.2.2.2.2.2.1, ck_s h.2.2.2.2.2.1.1.1, bd_s, Sc_forget, lt, bd_s]
theorem RC.hist (h : RC T V L D t X lo m c n K) {n' : Nat} {K' : Nat → Nat × Nat} (hF : Fr (fun y => 7 ≤ y ∧ y ≤ 9) V V') (hH : HiAt T V' n' K') : RC T V' L D t X lo m c n' K' ∧ FC V V' := by
  obtain ⟨a1, a2, a3, a4, a5, a6, a7, a8, a9⟩ := h
  have hd := a1.2.2.2.2.2.2.2.2.2.2
  exact ⟨⟨a1.fr hF, a2.fr hF (by omega) (by omega), a3.fr hF (by omega) (by omega), a4.fr hF, hH, a6.fr a8.2.1.2.1 hF (fun y h1 h2 => by omega), a7.fr hF, a8.fr hF (fun a h1 h2 => by omega), LexAt.sh' a9 hF⟩, FC.of hF (fun y hy => by omega)⟩
theorem cpush_s (h : RC T V L D t X lo m c n K) (k v : Nat) : ∃ V', (∀ {γ : Type} (f : Vx → Option γ), bd (ck T 0 (fR V 803 0)) (fun r => bd (Hi_push T V r (nI k) (nI v)) f) = f V') ∧ RC T V' L D t X lo m c (min n 5 + 1) (psh n K (min n 5) (k, v)) ∧ FC V V' := by
  obtain ⟨V', p1, p2, p3⟩ := push_s h.2.2.2.2.1 k v
  refine ⟨V', fun f => ?_, h.hist p2 p3⟩
  rw [h.1.2.2.2.2.2.1, ck_s h.2.2.2.2.1.1.1, bd_s, p1, bd_s]
theorem RC.row (h : RC T V L D t X lo m c n K) {c' : List Nat} (hF : Fr (fun y => y = 3 ∨ y = 4) V V') (hH : RowAt T V' 3 4 16 c') : RC T V' L D t X lo m c' n K ∧ FC V V' := by
  obtain ⟨a1, a2, a3, a4, a5, a6, a7, a8, a9⟩ := h
  have hd := a1.2.2.2.2.2.2.2.2.2.2
  exact ⟨⟨a1.fr hF, a2.fr hF (by omega) (by omega), hH, a4.fr hF, a5.fr hF (by omega) (by omega) (by omega), a6.fr a8.2.1.2.1 hF (fun y h1 h2 => by omega), a7.fr hF, a8.fr hF (fun a h1 h2 => by omega), LexAt.sh' a9 hF⟩, FC.of hF (fun y hy => by omega)⟩
/-- the Model keeps what is -/
theorem RM.note (h : RM T V t X lo m c n Ss) (hH : CHn X n K Ss (lo, m, c)) (S' : Snap) : ∃ V', Mo_note T V 166 = some V' ∧ Fr (fun y => 166 ≤ y) V V' ∧ RM T V' t X lo m c (min n 5 + 1) (psh n Ss (min n 5 + 1) S') := by
  obtain ⟨⟨m1, m2, m3, m4, m5, m6⟩, c1, t1, p1⟩ := h
  obtain ⟨V', g1, g2, g3, g4⟩ := note_s m1 p1 (fun i hi => (hH.2.2.2 i hi).2.1) (by
    rw [hH.2.1]
    exact ⟨m4, m5, c1.2.1, fun k hk => (c1.2.2 k hk).1⟩) S'
  refine ⟨V', g1, g2.1.mo (fun y hy => by omega), ⟨m1.fr g2.1, m2, m3.fr g2.1 (by omega), by rw [g3]; exact m4, by rw [g3]; exact m5, m6⟩, c1.fr g3, ⟨t1.1, by rw [g2.2 900 (by decide)]; exact t1.2.1, fun k hk => by rw [g2.1.2.2.2.1 _ _ (by omega)]; exact t1.2.2.1 k hk, t1.2.2.2⟩, g4⟩
theorem RM.set (h : RM T V t X lo m c n Ss) {lo' : Bool} {m' : Nat} {c' : List Nat} (hF : Fr (fun y => y = 170) V V') (h0 : aI V' 170 0 = bi lo') (h1 : aI V' 170 1 = nI m') (h2 : m' < 2 ^ 12) (h3 : CvAt V' X c') : RM T V' t X lo' m' c' n Ss ∧ Fr (fun y => 166 ≤ y) V V' := by
  obtain ⟨⟨m1, m2, m3, m4, m5, m6, m7⟩, c1, t1, p1⟩ := h
  have fi : ∀ f, fI V' f 166 = fI V f 166 := fun f => hF.2.2.1 _ _ (by omega)
  have a1 : ∀ i, aI V' 171 i = aI V 171 i := fun i => hF.2.2.2.1 _ _ (by omega)
  refine ⟨⟨⟨m1.fr hF, m2, m3.fr hF (by omega), h0, h1, h2, m7⟩, h3, ⟨t1.1, by rw [fi]; exact t1.2.1, fun k hk => by rw [hF.2.2.2.1 _ _ (by omega)]; exact t1.2.2.1 k hk, t1.2.2.2⟩, ?_⟩, hF.mo (fun y hy => by omega)⟩
  unfold PiAt SnAt
  simp only [fi, a1]
  exact p1
theorem xor_lt {a s N : Nat} (ha : a < 2 ^ N) (hs : s < N) : a ^^^ 2 ^ s < 2 ^ N := Nat.xor_lt_two_pow ha (Nat.pow_lt_pow_right (by decide) hs)
theorem xor_xor (a b : Nat) : a ^^^ b ^^^ b = a := by rw [Nat.xor_assoc, Nat.xor_self, Nat.xor_zero]
theorem CvAt.w1 (h : CvAt V X c) {i : Nat} {v : Int32} (hi : i < 2) : CvAt (wI V 170 i v) X c := by
  refine ⟨h.1, ?_, fun k hk => ⟨?_, (h.2.2 k hk).2⟩⟩
  · rw [aI_wI, if_neg (fun z => by omega)]; exact h.2.1
  · rw [aI_wI, if_neg (fun z => by omega)]; exact (h.2.2 k hk).1
theorem j_strike (h : Rel T V) (x y : Int32) : Jn T (RS_strike T V 0 x y) (fun V1 => Mo_strike T V1 166 x y) := by
  have h0 := h
  obtain ⟨k9, L, D, t, X, lo, m, c, n, K, Ss, hC, hM, hH⟩ := h
  have hp := hC.1
  obtain ⟨b1, b2, b3, b4, b5, b6, b7, b8, b9, d1, d2⟩ := hp
  have hX := hC.2.2.2.2.2.2.2.1
  have n12 := hX.2.1.1
  rcases sg_cases x (ns X) (by omega) with ⟨s, hs, rfl⟩ | hx
  · obtain ⟨k1, k2, k3, k4, k5, k6, k7⟩ := hX.sgn hs
    by_cases e1 : y < 0
    · refine ⟨-1, V, V, ?_, ?_, h0⟩
      · rw [RS_strike, b9, ck_s hX.1.1, bd_s, signAt_s hX hs, bd_s]
        dsimp only
        rw [if_pos e1]
      · show Mo_strike T V 166 (nI s) y = _
        rw [Mo_strike, isSign_t hM.1 hs, bd_s, if_neg (by decide), in_f T V (a := 0) (a' := 0) (b := 1) (b' := 1) rfl rfl (Or.inl e1), bd_s, if_pos rfl]
    by_cases e2 : y ≤ 1
    · obtain ⟨b, rfl⟩ := zo_cases e1 e2
      have hin : Mo_in T V (bi b).toInt64 0 1 = some 1 := in_t T V (a := 0) (a' := 0) (b := 1) (b' := 1) rfl rfl e1 (fun z => absurd e2 (Int32.not_le.mpr z))
      have hpre : RS_strike T V 0 (nI s) (bi b) = if stM m s = b then some (-2, V) else bd (RS_turn T V 0 (some (L + 3 + 3 * s))) (fun V20 => bd (ck T 0 (fR V20 803 0)) (fun r21 => bd (Hi_push T V20 r21 (nI 0) (nI s)) (fun V26 => bd (ck T 2 (fR V26 806 0)) (fun r27 => bd (Lx_struckSigns T V26 r27) (fun r32 => some (r32, V26)))))) := by
        rw [RS_strike, b9, ck_s hX.1.1, bd_s, signAt_s hX hs, bd_s]
        dsimp only
        rw [if_neg e1, if_pos e2, ck_s k1, bd_s, bi_1, bd_s, k6, if_bie]
        rfl
      have hmre : ∀ V1, MwAt T V1 X lo m → Mo_strike T V1 166 (nI s) (bi b) = if stM m s = b then some (-2, V1) else bd (Mo_note T V1 166) (fun V16 => bd (ck T 11 (fR V16 905 166)) (fun r17 => gd (inb 1 (ln T r17)) (gd (inb 1 (ln T r17)) (lt (wI V16 r17 (1 : Int32).toNatClampNeg ((aI V16 r17 (1 : Int32).toNatClampNeg) ^^^ ((1 : Int32) <<< (nI s &&& 31)))) (fun V23 => bd (ck T 11 (fR V23 905 166)) (fun r25 => gd (inb 1 (ln T r25)) (bd (Mo_bits T V23 (aI V23 r25 (1 : Int32).toNatClampNeg)) (fun r31 => some (r31, V23))))))))) := by
        intro V1 hm1
        rw [Mo_strike, isSign_t hm1 hs, bd_s, if_neg (by decide), in_t T V1 (a := 0) (a' := 0) (b := 1) (b' := 1) rfl rfl e1 (fun z => absurd e2 (Int32.not_le.mpr z)), bd_s, if_neg (by decide), isStruck_s hm1 (by omega), bd_s, bi_1, bd_s, if_bie]
      by_cases e3 : stM m s = b
      · rw [if_pos e3] at hpre
        refine ⟨-2, V, V, hpre, ?_, h0⟩
        show Mo_strike T V 166 (nI s) (bi b) = _
        rw [hmre V hM.1, if_pos e3]
      · rw [if_neg e3] at hpre
        obtain ⟨V1, r1, r2, r3⟩ := turn_s hC hs
        obtain ⟨V2, s1, s2, s3⟩ := cpush_s r2 0 s
        have hX2 := s2.2.2.2.2.2.2.2.1
        have hM2 := hM.fc (r3.tr s3)
        obtain ⟨V3, u1, u2, u3⟩ := hM2.note hH (lo, m ^^^ 2 ^ s, c)
        have hmn := hH.2.2.2 n (Nat.le_refl n)
        rw [hH.2.1] at hmn
        have hm' : m ^^^ 2 ^ s < 2 ^ ns X := xor_lt hmn.1 hs
        have hm12 : m ^^^ 2 ^ s < 2 ^ 12 := Nat.lt_of_lt_of_le hm' (Nat.pow_le_pow_right (by decide) n12)
        have u3' := u3
        obtain ⟨⟨m1, m2, m3, m4, m5, m6⟩, c1, -, -⟩ := u3'
        obtain ⟨-, -, -, ⟨g1, g2, g3⟩, -⟩ := m1
        obtain ⟨w1, w2⟩ := u3.set (V' := wI V3 170 1 (nI (m ^^^ 2 ^ s))) (lo' := lo) (m' := m ^^^ 2 ^ s) (c' := c) (Fr.wI _ _ _ _ rfl) (by rw [aI_wI, if_neg (fun z => absurd z.2 (by decide))]; exact m4) (by rw [aI_wI, if_pos ⟨rfl, rfl⟩]) hm12 (c1.w1 (by decide))
        refine ⟨nI (ctF (stM (m ^^^ 2 ^ s)) (ns X) 0), V2, wI V3 170 1 (nI (m ^^^ 2 ^ s)), ?_, ?_, k9, L, D, t, X, lo, m ^^^ 2 ^ s, c, min n 5 + 1, psh n K (min n 5) (0, s), psh n Ss (min n 5 + 1) (lo, m ^^^ 2 ^ s, c), s2.fr (u2.tr w2) (fun y hy => hy), w1, hH.push ⟨by omega, by show s < 100; omega, fun _ => hs, fun z => absurd z (by show ¬ (0 : Nat) = 2; decide), fun z => absurd z (by show ¬ (0 : Nat) = 3; decide)⟩ ?_ ⟨hm', hmn.2⟩⟩
        · rw [hpre, r1, bd_s, s1, s2.1.2.2.2.2.2.2.2.2.1, ck_s hX2.1.1, bd_s, struckSigns_s hX2, bd_s]
        · show Mo_strike T V2 166 (nI s) (bi b) = _
          rw [hmre V2 hM2.1, if_neg e3, u1, bd_s, g3, ck_s g1, bd_s, show (1 : Int32) = nI 1 from rfl, g2, gd_s (inb_n (by omega) (by omega)), gd_s (inb_n (by omega) (by omega)), lt, cl_n (by omega), m5, show nI 1 = (1 : Int32) from rfl, pow_n s (by omega), xor_n, fR_wI, g3, ck_s g1, bd_s, g2, gd_s (by decide), aI_wI, if_pos ⟨rfl, rfl⟩, bits_s _ (by omega), bd_s, pp_ct hm' (by omega)]
        · show (lo, (m ^^^ 2 ^ s) ^^^ 2 ^ s, c) = (lo, m, c)
          rw [xor_xor]
    · refine ⟨-1, V, V, ?_, ?_, h0⟩
      · rw [RS_strike, b9, ck_s hX.1.1, bd_s, signAt_s hX hs, bd_s]
        dsimp only
        rw [if_neg e1, if_neg e2]
      · show Mo_strike T V 166 (nI s) y = _
        rw [Mo_strike, isSign_t hM.1 hs, bd_s, if_neg (by decide), in_f T V (a := 0) (a' := 0) (b := 1) (b' := 1) rfl rfl (Or.inr (Int32.not_le.mp e2)), bd_s, if_pos rfl]
  · refine ⟨-1, V, V, ?_, ?_, h0⟩
    · rw [RS_strike, b9, ck_s hX.1.1, bd_s, signAt_n hX hx, bd_s]
    · show Mo_strike T V 166 x y = _
      rw [Mo_strike, isSign_f hM.1 hx, bd_s, if_pos rfl]
end CG
