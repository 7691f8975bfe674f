/-! ===== count ===== -/
theorem ctF_sm (f : Nat → Bool) : ∀ (d j : Nat), ctF f d j = smF (fun i => if f i = true then 1 else 0) d j := by
  intro d
  induction d with
  | zero => intro j; rfl
  | succ d ih => intro j; rw [ctF, smF, ih]
theorem smF_split (g : Nat → Nat) : ∀ (d e j : Nat), smF g (d + e) j = smF g d j + smF g e (j + d) := by
  intro d
  induction d with
  | zero => intro e j; rw [Nat.zero_add, smF, Nat.zero_add, Nat.add_zero]
  | succ d ih =>
    intro e j
    rw [show d + 1 + e = (d + e) + 1 by omega, smF, smF, ih e (j + 1), show j + 1 + d = j + (d + 1) by omega]
    omega
section CO
variable {T : Tx} {V V1 V2 : Vx} {L D : Nat} {t : List Nat} {X : Lex} {lo : Bool} {m : Nat} {c : List Nat} {n : Nat} {K : Nat → Nat × Nat} {Ss : Nat → Snap}
/-- each pair once, from either side -/
theorem pairs (f : Nat → Nat → Bool) (N : Nat) : smF (fun a => ctF (fun v => !(decide (v = a)) && f a v) (N - (a + 1)) (a + 1)) N 0 = smF (fun b => ctF (fun a => f a b) b 0) N 0 := by
  have h1 : ∀ a, 0 ≤ a → a < 0 + N → ctF (fun v => !(decide (v = a)) && f a v) (N - (a + 1)) (a + 1) = smF (fun b => if a < b ∧ f a b = true then 1 else 0) N 0 := by
    intro a _ ha
    have hs := smF_split (fun b => if a < b ∧ f a b = true then 1 else 0) (a + 1) (N - (a + 1)) 0
    rw [show a + 1 + (N - (a + 1)) = N by omega, Nat.zero_add] at hs
    rw [hs, smF_zero (f := fun b => if a < b ∧ f a b = true then 1 else 0) (a + 1) 0 (fun i _ hi => if_neg (by omega)), Nat.zero_add, ctF_sm]
    refine smF_congr _ _ (fun i i1 _ => ?_)
    show (if (!(decide (i = a)) && f a i) = true then 1 else 0) = (if a < i ∧ f a i = true then 1 else 0)
    rw [decide_eq_false (show ¬ i = a by omega), Bool.not_false, Bool.true_and]
    by_cases e : f a i = true
    · rw [if_pos e, if_pos ⟨by omega, e⟩]
    · rw [if_neg e, if_neg (fun z => e z.2)]
  have h2 : ∀ b, 0 ≤ b → b < 0 + N → ctF (fun a => f a b) b 0 = smF (fun a => if a < b ∧ f a b = true then 1 else 0) N 0 := by
    intro b _ hb
    have hs := smF_split (fun a => if a < b ∧ f a b = true then 1 else 0) b (N - b) 0
    rw [show b + (N - b) = N by omega, Nat.zero_add] at hs
    rw [hs, smF_zero (f := fun a => if a < b ∧ f a b = true then 1 else 0) (N - b) b (fun i hi _ => if_neg (by omega)), Nat.add_zero, ctF_sm]
    refine smF_congr _ _ (fun i _ i2 => ?_)
    show (if f i b = true then 1 else 0) = (if i < b ∧ f i b = true then 1 else 0)
    by_cases e : f i b = true
    · rw [if_pos e, if_pos ⟨by omega, e⟩]
    · rw [if_neg e, if_neg (fun z => e z.2)]
  rw [smF_congr N 0 h1, smF_congr N 0 h2]
  exact smF_swap (fun a b => if a < b ∧ f a b = true then 1 else 0) N 0 N 0
theorem count76 {w : Nat} (hw : w < nw X) (p1 x31 x41 : Int32) : ∀ (d k v a : Nat) (V : Vx), v + d = w → d < k → MwAt T V X lo m → ∃ V', Mo_count_L76 T 166 p1 x31 x41 (nI w) k V (nI a) (nI v) = some (nI (a + ctF (fun v => mx X lo (stM m) v w) d v), V') ∧ FrN V V' := by
  intro d
  induction d with
  | zero =>
    intro k v a V hv hk hm
    have n8 := hm.2.1.2.1
    obtain ⟨k, rfl⟩ : ∃ m, k = m + 1 := ⟨k - 1, by omega⟩
    refine ⟨V, ?_, FrN.rf⟩
    rw [Mo_count_L76, if_le (by omega) (by omega), if_pos (by omega)]
    rfl
  | succ d ih =>
    intro k v a V hv hk hm
    have n8 := hm.2.1.2.1
    obtain ⟨k, rfl⟩ : ∃ m, k = m + 1 := ⟨k - 1, by omega⟩
    obtain ⟨V1, p1', p2⟩ := areMixed_s (w := v) (v := w) (by omega) hw hm
    rw [Mo_count_L76, if_le (by omega) (by omega), if_neg (by omega), p1', bd2_s, if_bi, lt, lt, show nI a + 0 = nI a from nI_add a 0, nI_1, nI_1, ctF]
    by_cases e : mx X lo (stM m) v w = true
    · obtain ⟨V2, q1, q2⟩ := ih k (v + 1) (a + 1) V1 (by omega) (by omega) (hm.frn p2)
      refine ⟨V2, ?_, p2.tr q2⟩
      rw [if_pos e, if_pos e, q1]
      congr 3
      omega
    · obtain ⟨V2, q1, q2⟩ := ih k (v + 1) a V1 (by omega) (by omega) (hm.frn p2)
      refine ⟨V2, ?_, p2.tr q2⟩
      rw [if_neg e, if_neg e, q1]
      congr 3
      omega
theorem clr_le (w : Nat) (st : Nat → Bool) : clr X lo st w ≤ 2 := by
  unfold clr
  split
  · omega
  · split
    · omega
    · split
      · omega
      · split <;> omega
theorem count10 {p1 : Int32} (hp : ∀ V, Mo_in T V p1.toInt64 5 7 = some 1) : ∀ (d k w a b e : Nat) (V : Vx), w + d = nw X → d < k → MwAt T V X lo m → ∃ V', Mo_count_L10 T 166 p1 k V (nI a) (nI b) (nI e) (nI w) = some (nI (a + ctF (fun w => (lfW X lo (stM m) w).isSome) d w), nI (b + ctF (fun w => !(decide (clr X lo (stM m) w = 0))) d w), nI (e + smF (fun w => ctF (fun v => mx X lo (stM m) v w) w 0) d w), V') ∧ FrN V V' := by
  intro d
  induction d with
  | zero =>
    intro k w a b e V hv hk hm
    have n8 := hm.2.1.2.1
    obtain ⟨k, rfl⟩ : ∃ m, k = m + 1 := ⟨k - 1, by omega⟩
    obtain ⟨-, ⟨c1, c2, c3⟩, -⟩ := hm.1
    refine ⟨V, ?_, FrN.rf⟩
    rw [Mo_count_L10, c3, ck_s c1, bd_s, show (165 : Int32) = nI 165 from rfl, c2, gd_s (inb_n (by omega) (by omega)), cl_n (by omega), hm.2.2.1.2.1, if_le (by omega) (by omega), if_pos (by omega)]
    rfl
  | succ d ih =>
    intro k w a b e V hv hk hm
    have n8 := hm.2.1.2.1
    obtain ⟨k, rfl⟩ : ∃ m, k = m + 1 := ⟨k - 1, by omega⟩
    have hw : w < nw X := by omega
    obtain ⟨-, ⟨c1, c2, c3⟩, -⟩ := hm.1
    obtain ⟨V1, l1, l2, -⟩ := leasts_s hw hm
    have hm1 := hm.frm l2
    obtain ⟨V2, r1, r2⟩ := clear_s hw hm1
    have hm2 := hm1.frn r2
    have hcl := clr_le (X := X) (lo := lo) w (stM m)
    have hlf : (if oI (lfW X lo (stM m) w) = -4 then (some 0 : Option Int32) else some 1) = some (nI (if (lfW X lo (stM m) w).isSome = true then 1 else 0)) := by
      rw [oI_n4 _ (fun v hv => by have := (lfW_s hm.2.1 hw hv).2.1; omega)]
      cases lfW X lo (stM m) w with
      | none => rfl
      | some q => rfl
    have hcr : (if nI (clr X lo (stM m) w) ≤ 0 then (some 0 : Option Int32) else some 1) = some (nI (if (!(decide (clr X lo (stM m) w = 0))) = true then 1 else 0)) := by
      rw [show (0 : Int32) = nI 0 from rfl, if_le (by omega) (by omega)]
      by_cases z : clr X lo (stM m) w = 0
      · rw [if_pos (by omega), decide_eq_true z]; rfl
      · rw [if_neg (by omega), decide_eq_false z]; rfl
    obtain ⟨V3, s1, s2⟩ := count76 (T := T) (lo := lo) (m := m) hw p1 (nI (a + (if (lfW X lo (stM m) w).isSome = true then 1 else 0))) (nI (b + (if (!(decide (clr X lo (stM m) w = 0))) = true then 1 else 0))) w FU 0 e V2 (by omega) (by rw [← FU_big]; omega) hm2
    obtain ⟨V4, u1, u2⟩ := ih k (w + 1) (a + (if (lfW X lo (stM m) w).isSome = true then 1 else 0)) (b + (if (!(decide (clr X lo (stM m) w = 0))) = true then 1 else 0)) (e + ctF (fun v => mx X lo (stM m) v w) w 0) V3 (by omega) (by omega) (hm2.frn s2)
    refine ⟨V4, ?_, ((l2.n.tr r2).tr s2).tr u2⟩
    rw [Mo_count_L10, c3, ck_s c1, bd_s, show (165 : Int32) = nI 165 from rfl, c2, gd_s (inb_n (by omega) (by omega)), cl_n (by omega), hm.2.2.1.2.1, if_le (by omega) (by omega), if_neg (by omega), hp, bd_s, if_neg (by decide), l1, bd2_s, hlf, bd_s, lt, nI_add, r1, bd2_s, hcr, bd_s, lt, nI_add, show Mo_count_L76 T 166 p1 (nI (a + (if (lfW X lo (stM m) w).isSome = true then 1 else 0))) (nI (b + (if (!(decide (clr X lo (stM m) w = 0))) = true then 1 else 0))) (nI w) FU V2 (nI e) 0 = _ from s1, bd2_s, nI_1, u1, ctF, ctF, smF, Nat.add_assoc a, Nat.add_assoc b, Nat.add_assoc e]
theorem count_no {p1 : Int32} (hp : ∀ V, Mo_in T V p1.toInt64 5 7 = some 0) (hm : MwAt T V X lo m) : Mo_count_L10 T 166 p1 FU V 0 0 0 0 = some (0, 0, 0, V) := by
  obtain ⟨f, hf⟩ : ∃ f, FU = f + 1 := ⟨99999, rfl⟩
  have n8 := hm.2.1.2.1
  obtain ⟨-, ⟨c1, c2, c3⟩, -⟩ := hm.1
  rw [hf, Mo_count_L10, c3, ck_s c1, bd_s, show (165 : Int32) = nI 165 from rfl, c2, gd_s (inb_n (by omega) (by omega)), cl_n (by omega), hm.2.2.1.2.1, hp, bd_s, if_pos rfl, ite_self]
theorem j_count (h : Rel T V) (x : Int32) : Jn T (RS_count T V 0 x) (fun V1 => Mo_count T V1 166 x) := by
  have h0 := h
  obtain ⟨k9, L, D, t, X, lo, m, c, n, K, Ss, hC, hM, hH⟩ := h
  have hp := hC.1
  obtain ⟨b1, b2, b3, b4, b5, b6, b7, b8, b9, d1, d2⟩ := hp
  have hX := hC.2.2.2.2.2.2.2.1
  have n12 := hX.2.1.1
  have n8 := hX.2.1.2.1
  have hmre : ∀ (x : Int32), (∀ V, Mo_in T V x.toInt64 5 7 = some 0) → Mo_count T V 166 x = (if x = 0 then some (nI (ns X), V) else if x = 1 then some (nI (nw X), V) else if x = 2 then some (bi lo, V) else if x = 3 then some (nI (pp m), V) else if x = 4 then some (nI c.length, V) else if x = 5 then some (0, V) else if x = 6 then some (0, V) else if x = 7 then some (0, V) else if x = 8 then some (nI n, V) else if x = 9 then some (nI t.length, V) else some (-1, V)) := by
    intro x hx
    have hM' := hM
    obtain ⟨⟨m1, m2, m3, m4, m5, m6, m7⟩, u1, u2, u3⟩ := hM'
    obtain ⟨-, ⟨c1, c2, c3⟩, -, ⟨g1, g2, g3⟩, -⟩ := m1
    rw [Mo_count, count_no hx hM.1, bd4_s, show (164 : Int32) = nI 164 from rfl, show (165 : Int32) = nI 165 from rfl, c3, ck_s c1, bd_s, c2, gd_s (inb_n (by omega) (by omega)), cl_n (by omega), m3.1, bd_s, c2, gd_s (inb_n (by omega) (by omega)), cl_n (by omega), m3.2.1, g3, ck_s g1, bd_s, g2, gd_s (by decide), show (0 : Int32).toNatClampNeg = 0 from rfl, m4, bd_s, g2, gd_s (by decide), show (1 : Int32).toNatClampNeg = 1 from rfl, m5, bits_s _ (by omega), bd_s, bd_s, g2, gd_s (by decide), show (2 : Int32).toNatClampNeg = 2 from rfl, u1.2.1, u3.2.1, u2.2.1]
  have hno : ∀ (x : Int32), x < 5 ∨ 7 < x → ∀ V, Mo_in T V x.toInt64 5 7 = some 0 := fun x hx V => in_f T V (a := 5) (a' := 5) (b := 7) (b' := 7) rfl rfl hx
  have hmn := hH.2.2.2 n (Nat.le_refl n)
  rw [hH.2.1] at hmn
  rcases rng_cases x 9 (by omega) with hx | ⟨j, hj, rfl⟩
  · refine ⟨-1, V, V, ?_, ?_, h0⟩
    · rw [RS_count, if_neg (show ¬ x = 0 from rng_ne hx 0 (by omega) (by omega)), if_neg (show ¬ x = 1 from rng_ne hx 1 (by omega) (by omega)), if_neg (show ¬ x = 2 from rng_ne hx 2 (by omega) (by omega)), if_neg (show ¬ x = 3 from rng_ne hx 3 (by omega) (by omega)), if_neg (show ¬ x = 4 from rng_ne hx 4 (by omega) (by omega)), if_neg (show ¬ x = 5 from rng_ne hx 5 (by omega) (by omega)), if_neg (show ¬ x = 6 from rng_ne hx 6 (by omega) (by omega)), if_neg (show ¬ x = 7 from rng_ne hx 7 (by omega) (by omega)), if_neg (show ¬ x = 8 from rng_ne hx 8 (by omega) (by omega)), if_neg (show ¬ x = 9 from rng_ne hx 9 (by omega) (by omega))]
    · show Mo_count T V 166 x = _
      rw [hmre x (hno x (by
        rcases hx with z | z
        · exact Or.inl (Int32.lt_of_lt_of_le z (by decide))
        · exact Or.inr (Int32.lt_of_le_of_lt (by decide) z))), if_neg (show ¬ x = 0 from rng_ne hx 0 (by omega) (by omega)), if_neg (show ¬ x = 1 from rng_ne hx 1 (by omega) (by omega)), if_neg (show ¬ x = 2 from rng_ne hx 2 (by omega) (by omega)), if_neg (show ¬ x = 3 from rng_ne hx 3 (by omega) (by omega)), if_neg (show ¬ x = 4 from rng_ne hx 4 (by omega) (by omega)), if_neg (show ¬ x = 5 from rng_ne hx 5 (by omega) (by omega)), if_neg (show ¬ x = 6 from rng_ne hx 6 (by omega) (by omega)), if_neg (show ¬ x = 7 from rng_ne hx 7 (by omega) (by omega)), if_neg (show ¬ x = 8 from rng_ne hx 8 (by omega) (by omega)), if_neg (show ¬ x = 9 from rng_ne hx 9 (by omega) (by omega))]
  · have hlow : ∀ (v : Int32), RS_count T V 0 (nI j) = some (v, V) → Mo_count T V 166 (nI j) = some (v, V) → Jn T (RS_count T V 0 (nI j)) (fun V1 => Mo_count T V1 166 (nI j)) := fun v a b => ⟨v, V, V, a, b, h0⟩
    have h57 : ∀ i, 5 ≤ i → i ≤ 7 → ∀ V, Mo_in T V (nI i).toInt64 5 7 = some 1 := fun i i1 i2 V => in_t T V (a := nI 5) (a' := 5) (b := nI 7) (b' := 7) rfl rfl (by rw [nI_ltI (by omega) (by omega)]; omega) (by rw [nI_ltI (by omega) (by omega)]; omega)
    have hj10 : j = 0 ∨ j = 1 ∨ j = 2 ∨ j = 3 ∨ j = 4 ∨ j = 5 ∨ j = 6 ∨ j = 7 ∨ j = 8 ∨ j = 9 := by omega
    rcases hj10 with rfl | rfl | rfl | rfl | rfl | rfl | rfl | rfl | rfl | rfl
    · refine hlow (nI (ns X)) ?_ ?_
      · rw [RS_count, if_pos (by decide), b9, ck_s hX.1.1, bd_s, hX.2.2.1]
      · rw [hmre _ (hno _ (by decide)), if_pos (by decide)]
    · refine hlow (nI (nw X)) ?_ ?_
      · rw [RS_count, if_neg (by decide), if_pos (by decide), b9, ck_s hX.1.1, bd_s, hX.2.2.2.1]
      · rw [hmre _ (hno _ (by decide)), if_neg (by decide), if_pos (by decide)]
    · refine hlow (bi lo) ?_ ?_
      · rw [RS_count, if_neg (by decide), if_neg (by decide), if_pos (by decide), RS_lawNumber, b9, ck_s hX.1.1, bd_s, hX.2.2.2.2.1, bi_01, bd_s]
      · rw [hmre _ (hno _ (by decide)), if_neg (by decide), if_neg (by decide), if_pos (by decide)]
    · refine hlow (nI (ctF (stM m) (ns X) 0)) ?_ ?_
      · rw [RS_count, if_neg (by decide), if_neg (by decide), if_neg (by decide), if_pos (by decide), b9, ck_s hX.1.1, bd_s, struckSigns_s hX, bd_s]
      · rw [hmre _ (hno _ (by decide)), if_neg (by decide), if_neg (by decide), if_neg (by decide), if_pos (by decide), pp_ct hmn.1 (by omega)]
    · refine hlow (nI c.length) ?_ ?_
      · rw [RS_count, if_neg (by decide), if_neg (by decide), if_neg (by decide), if_neg (by decide), if_pos (by decide), b4, ck_s hC.2.2.1.1, bd_s, Ro_size_s hC.2.2.1, bd_s]
      · rw [hmre _ (hno _ (by decide)), if_neg (by decide), if_neg (by decide), if_neg (by decide), if_neg (by decide), if_pos (by decide)]
    · obtain ⟨W, p1, p2, p3⟩ := csettle_s hC
      have hM1 := hM.fc p3
      obtain ⟨W2, q1, q2⟩ := count10 (X := X) (lo := lo) (m := m) (p1 := nI 5) (h57 5 (by omega) (by omega)) (nw X) FU 0 0 0 0 W (by omega) (by rw [← FU_big]; omega) hM1.1
      have hl := wrw_l p2 (nw X) FU 0 0 (by omega) (by rw [← FU_big]; omega)
      refine ⟨nI (0 + ctF (fun w => (lfW X lo (stM m) w).isSome) (nw X) 0), W, W2, ?_, ?_, rel_q k9 p2.1 hM p3 q2 hH⟩
      · rw [RS_count, if_neg (by decide), if_neg (by decide), if_neg (by decide), if_neg (by decide), if_neg (by decide), if_pos (by decide), RS_writtenWords, p1, show (0 : Int32) = nI 0 from rfl, hl, bd2_s]
      · show Mo_count T W 166 (nI 5) = _
        rw [Mo_count, show Mo_count_L10 T 166 (nI 5) FU W 0 0 0 0 = _ from q1, bd4_s, if_neg (by decide), if_neg (by decide), if_neg (by decide), if_neg (by decide), if_neg (by decide), if_pos (by decide)]
    · obtain ⟨W, p1, p2, p3⟩ := csettle_s hC
      obtain ⟨W1, r1, r2, r3⟩ := clw_l (nw X) FU 0 0 W p2 (by omega) (by rw [← FU_big]; omega)
      have hf := p3.tr r3
      have hM1 := hM.fc hf
      obtain ⟨W2, q1, q2⟩ := count10 (X := X) (lo := lo) (m := m) (p1 := nI 6) (h57 6 (by omega) (by omega)) (nw X) FU 0 0 0 0 W1 (by omega) (by rw [← FU_big]; omega) hM1.1
      refine ⟨nI (0 + ctF (fun w => !(decide (clr X lo (stM m) w = 0))) (nw X) 0), W1, W2, ?_, ?_, rel_q k9 r2.1 hM hf q2 hH⟩
      · rw [RS_count, if_neg (by decide), if_neg (by decide), if_neg (by decide), if_neg (by decide), if_neg (by decide), if_neg (by decide), if_pos (by decide), RS_clearWords, p1, show (0 : Int32) = nI 0 from rfl, r1, bd2_s]
      · show Mo_count T W1 166 (nI 6) = _
        rw [Mo_count, show Mo_count_L10 T 166 (nI 6) FU W1 0 0 0 0 = _ from q1, bd4_s, if_neg (by decide), if_neg (by decide), if_neg (by decide), if_neg (by decide), if_neg (by decide), if_neg (by decide), if_pos (by decide)]
    · obtain ⟨W, p1, p2, p3⟩ := csettle_s hC
      have hM1 := hM.fc p3
      obtain ⟨W2, q1, q2⟩ := count10 (X := X) (lo := lo) (m := m) (p1 := nI 7) (h57 7 (by omega) (by omega)) (nw X) FU 0 0 0 0 W (by omega) (by rw [← FU_big]; omega) hM1.1
      have hl := mxp_l p2 (nw X) FU 0 0 (by omega) (by rw [← FU_big]; omega)
      refine ⟨nI (0 + smF (fun w => ctF (fun v => mx X lo (stM m) v w) w 0) (nw X) 0), W, W2, ?_, ?_, rel_q k9 p2.1 hM p3 q2 hH⟩
      · rw [RS_count, if_neg (by decide), if_neg (by decide), if_neg (by decide), if_neg (by decide), if_neg (by decide), if_neg (by decide), if_neg (by decide), if_pos (by decide), RS_mixedPairs, p1, show (0 : Int32) = nI 0 from rfl, hl, bd2_s]
        have := pairs (fun a b => mx X lo (stM m) a b) (nw X)
        rw [show (fun w => mxN X lo (stM m) w (nw X - (w + 1)) (w + 1)) = (fun a => ctF (fun v => !(decide (v = a)) && mx X lo (stM m) a v) (nw X - (a + 1)) (a + 1)) from rfl, this]
      · show Mo_count T W 166 (nI 7) = _
        rw [Mo_count, show Mo_count_L10 T 166 (nI 7) FU W 0 0 0 0 = _ from q1, bd4_s, if_neg (by decide), if_neg (by decide), if_neg (by decide), if_neg (by decide), if_neg (by decide), if_neg (by decide), if_neg (by decide), if_pos (by decide)]
    · refine hlow (nI n) ?_ ?_
      · rw [RS_count, if_neg (by decide), if_neg (by decide), if_neg (by decide), if_neg (by decide), if_neg (by decide), if_neg (by decide), if_neg (by decide), if_neg (by decide), if_pos (by decide), b6, ck_s hC.2.2.2.2.1.1.1, bd_s, Hi_size, hC.2.2.2.2.1.2.2.1, bd_s]
      · rw [hmre _ (hno _ (by decide)), if_neg (by decide), if_neg (by decide), if_neg (by decide), if_neg (by decide), if_neg (by decide), if_neg (by decide), if_neg (by decide), if_neg (by decide), if_pos (by decide)]
    · refine hlow (nI t.length) ?_ ?_
      · rw [RS_count, if_neg (by decide), if_neg (by decide), if_neg (by decide), if_neg (by decide), if_neg (by decide), if_neg (by decide), if_neg (by decide), if_neg (by decide), if_neg (by decide), if_pos (by decide), b3, ck_s hC.2.1.1, bd_s, Le_size_s hC.2.1, bd_s]
      · rw [hmre _ (hno _ (by decide)), if_neg (by decide), if_neg (by decide), if_neg (by decide), if_neg (by decide), if_neg (by decide), if_neg (by decide), if_neg (by decide), if_neg (by decide), if_neg (by decide), if_pos (by decide)]
end CO
