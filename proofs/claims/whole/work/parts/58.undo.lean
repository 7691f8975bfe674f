/-! ===== law, carve, chip, undo ===== -/
theorem bi_n (b : Bool) : bi b = nI b.toNat := by cases b <;> rfl
section CU
variable {T : Tx} {V V' : Vx} {L D : Nat} {t : List Nat} {X : Lex} {lo : Bool} {m : Nat} {c : List Nat} {n : Nat} {K : Nat → Nat × Nat} {Ss : Nat → Snap}
theorem j_law (h : Rel T V) (x : Int32) : Jn T (RS_law T V 0 x) (fun V1 => Mo_law T V1 166 x) := by
  have h0 := h
  obtain ⟨k9, L, D, t, X, lo, m, c, n, K, Ss, hC, hM, hH⟩ := h
  have hp := hC.1
  obtain ⟨b1, b2, b3, b4, b5, b6, b7, b8, b9, d1, d2⟩ := hp
  have hX := hC.2.2.2.2.2.2.2.1
  by_cases e1 : x < 0
  · refine ⟨-1, V, V, by rw [RS_law, if_pos e1], ?_, h0⟩
    show Mo_law T V 166 x = _
    rw [Mo_law, in_f T V (a := 0) (a' := 0) (b := 1) (b' := 1) rfl rfl (Or.inl e1), bd_s, if_pos rfl]
  by_cases e2 : x ≤ 1
  · obtain ⟨b, rfl⟩ := zo_cases e1 e2
    have hpre : RS_law T V 0 (bi b) = if lo = b then some (-2, V) else bd (RS_turnLaw T V 0) (fun V16 => bd (ck T 0 (fR V16 803 0)) (fun r17 => bd (Hi_push T V16 r17 (nI 1) (nI lo.toNat)) (fun V22 => some (bi lo, V22)))) := by
      rw [RS_law, if_neg e1, if_pos e2, b9, ck_s hX.1.1, bd_s, bi_1, bd_s, hX.2.2.2.2.1, if_bie, RS_lawNumber, b9, ck_s hX.1.1, bd_s, hX.2.2.2.2.1, bi_01, bd_s, ← bi_n]
      rfl
    have hmre : ∀ V1, RM T V1 t X lo m c n Ss → Mo_law T V1 166 (bi b) = if lo = b then some (-2, V1) else bd (Mo_note T V1 166) (fun V13 => bd (ck T 11 (fR V13 905 166)) (fun r14 => gd (inb (nI 0) (ln T r14)) (lt (wI V13 r14 (nI 0).toNatClampNeg (bi b)) (fun V19 => some (bi lo, V19))))) := by
      intro V1 h1
      obtain ⟨⟨m1, m2, m3, m4, m5, m6⟩, -⟩ := h1
      obtain ⟨-, -, -, ⟨g1, g2, g3⟩, -⟩ := m1
      rw [Mo_law, in_t T V1 (a := 0) (a' := 0) (b := 1) (b' := 1) rfl rfl e1 (fun z => absurd e2 (Int32.not_le.mpr z)), bd_s, if_neg (by decide), g3, ck_s g1, bd_s, show (0 : Int32) = nI 0 from rfl, g2, gd_s (inb_n (by omega) (by omega)), cl_n (by omega), lt, m4, if_bie]
    by_cases e3 : lo = b
    · rw [if_pos e3] at hpre
      refine ⟨-2, V, V, hpre, ?_, h0⟩
      show Mo_law T V 166 (bi b) = _
      rw [hmre V hM, if_pos e3]
    · rw [if_neg e3] at hpre
      have hb : b = !lo := by cases b <;> cases lo <;> first | rfl | exact absurd rfl e3
      obtain ⟨V1, r1, r2, r3⟩ := turnLaw_s hC
      obtain ⟨V2, s1, s2, s3⟩ := cpush_s r2 1 lo.toNat
      have hM2 := hM.fc (r3.tr s3)
      obtain ⟨V3, u1, u2, u3⟩ := hM2.note hH (!lo, m, c)
      have hmn := hH.2.2.2 n (Nat.le_refl n)
      rw [hH.2.1] at hmn
      have u3' := u3
      obtain ⟨⟨m1, m2, m3, m4, m5, m6, m7⟩, c1, -, -⟩ := u3'
      obtain ⟨-, -, -, ⟨g1, g2, g3⟩, -⟩ := m1
      obtain ⟨w1, w2⟩ := u3.set (V' := wI V3 170 0 (bi (!lo))) (lo' := !lo) (m' := m) (c' := c) (Fr.wI _ _ _ _ rfl) (by rw [aI_wI, if_pos ⟨rfl, rfl⟩]) (by rw [aI_wI, if_neg (fun z => absurd z.2 (by decide))]; exact m5) m6 (c1.w1 (by decide))
      refine ⟨bi lo, V2, wI V3 170 0 (bi (!lo)), ?_, ?_, k9, L, D, t, X, !lo, m, c, min n 5 + 1, psh n K (min n 5) (1, lo.toNat), psh n Ss (min n 5 + 1) (!lo, m, c), s2.fr (u2.tr w2) (fun y hy => hy), w1, hH.push ⟨by show 1 ≤ 3; decide, by show lo.toNat < 100; cases lo <;> decide, fun z => absurd z (by show ¬ (1 : Nat) = 0; decide), fun z => absurd z (by show ¬ (1 : Nat) = 2; decide), fun z => absurd z (by show ¬ (1 : Nat) = 3; decide)⟩ ?_ hmn⟩
      · rw [hpre, r1, bd_s, s1]
      · show Mo_law T V2 166 (bi b) = _
        rw [hmre V2 hM2, if_neg e3, u1, bd_s, g3, ck_s g1, bd_s, g2, gd_s (inb_n (by omega) (by omega)), lt, cl_n (by omega), hb]
      · show (!(!lo), m, c) = (lo, m, c)
        rw [Bool.not_not]
  · refine ⟨-1, V, V, by rw [RS_law, if_neg e1, if_neg e2], ?_, h0⟩
    show Mo_law T V 166 x = _
    rw [Mo_law, in_f T V (a := 0) (a' := 0) (b := 1) (b' := 1) rfl rfl (Or.inr (Int32.not_le.mp e2)), bd_s, if_pos rfl]
theorem j_carve (h : Rel T V) (x : Int32) : Jn T (RS_carve T V 0 x) (fun V1 => Mo_carve T V1 166 x) := by
  have h0 := h
  obtain ⟨k9, L, D, t, X, lo, m, c, n, K, Ss, hC, hM, hH⟩ := h
  have hp := hC.1
  obtain ⟨b1, b2, b3, b4, b5, b6, b7, b8, b9, d1, d2⟩ := hp
  have hX := hC.2.2.2.2.2.2.2.1
  have hR := hC.2.2.1
  have n12 := hX.2.1.1
  rcases sg_cases x (ns X) (by omega) with ⟨s, hs, rfl⟩ | hx
  · have hpre : RS_carve T V 0 (nI s) = if decide (16 ≤ c.length) = true then some (-3, V) else bd (Ro_put T V 3 (nI s)) (fun V20 => bd (ck T 0 (fR V20 803 0)) (fun r21 => bd (Hi_push T V20 r21 (nI 2) (nI s)) (fun V26 => bd (ck T 4 (fR V26 801 0)) (fun r27 => bd (Ro_size T V26 r27) (fun r32 => some (r32, V26)))))) := by
      rw [RS_carve, b9, ck_s hX.1.1, bd_s, signAt_s hX hs, bd_s]
      dsimp only
      rw [b4, ck_s hR.1, bd_s, Ro_isFull_s hR, bd_s, if_bi, bd_s]
      rfl
    have hmre : ∀ V1, RM T V1 t X lo m c n Ss → Mo_carve T V1 166 (nI s) = if c.length = 16 then some (-3, V1) else bd (Mo_note T V1 166) (fun V11 => bd (ck T 11 (fR V11 905 166)) (fun r12 => bd (ck T 11 (fR V11 905 166)) (fun r16 => gd (inb (nI 2) (ln T r16)) (gd (inb (3 + (aI V11 r16 (nI 2).toNatClampNeg)) (ln T r12)) (lt (wI V11 r12 (3 + (aI V11 r16 (nI 2).toNatClampNeg)).toNatClampNeg (nI s)) (fun V22 => bd (ck T 11 (fR V22 905 166)) (fun r24 => gd (inb (nI 2) (ln T r24)) (gd (inb (nI 2) (ln T r24)) (lt (wI V22 r24 (nI 2).toNatClampNeg ((aI V22 r24 (nI 2).toNatClampNeg) + 1)) (fun V30 => bd (ck T 11 (fR V30 905 166)) (fun r32 => gd (inb (nI 2) (ln T r32)) (some ((aI V30 r32 (nI 2).toNatClampNeg), V30))))))))))))) := by
      intro V1 h1
      obtain ⟨m1, c1, -⟩ := h1
      have c16 := c1.1
      rw [Mo_carve, isSign_t m1 hs, bd_s, if_neg (by decide)]
      obtain ⟨-, -, -, ⟨g1, g2, g3⟩, -⟩ := m1.1
      rw [g3, ck_s g1, bd_s, show (2 : Int32) = nI 2 from rfl, g2, gd_s (inb_n (by omega) (by omega)), cl_n (by omega), c1.2.1, show (16 : Int32) = nI 16 from rfl, if_eqn (by omega) (by omega)]
    have c16 := hM.2.1.1
    by_cases e3 : 16 ≤ c.length
    · rw [if_pos (decide_eq_true e3)] at hpre
      refine ⟨-3, V, V, hpre, ?_, h0⟩
      show Mo_carve T V 166 (nI s) = _
      rw [hmre V hM, if_pos (by omega)]
    · rw [if_neg (fun z => e3 (of_decide_eq_true z))] at hpre
      obtain ⟨V1, r1, r2, r3⟩ := Ro_put_s hR s (by omega) (by omega)
      obtain ⟨rc1, rf1⟩ := hC.row r2 r3
      obtain ⟨V2, s1, s2, s3⟩ := cpush_s rc1 2 s
      have hM2 := hM.fc (rf1.tr s3)
      obtain ⟨V3, u1, u2, u3⟩ := hM2.note hH (lo, m, c ++ [s])
      have hmn := hH.2.2.2 n (Nat.le_refl n)
      rw [hH.2.1] at hmn
      have u3' := u3
      obtain ⟨⟨m1, m2, m3, m4, m5, m6, m7⟩, c1, -, -⟩ := u3'
      obtain ⟨-, -, -, ⟨g1, g2, g3⟩, -⟩ := m1
      have hlen : (c ++ [s]).length = c.length + 1 := by simp
      have hcc : ∀ k, k < (c ++ [s]).length → ch (c ++ [s]) k < ns X := fun k hk => by
        rw [hlen] at hk
        rw [ch_app1]
        by_cases e : k < c.length
        · rw [if_pos e]; exact (c1.2.2 k e).2
        · rw [if_neg e, if_pos (by omega)]; exact hs
      have hCv : CvAt (wI (wI V3 170 (3 + c.length) (nI s)) 170 2 (nI (c.length + 1))) X (c ++ [s]) := by
        refine ⟨by rw [hlen]; omega, by rw [aI_wI, if_pos ⟨rfl, rfl⟩, hlen], fun k hk => ⟨?_, hcc k hk⟩⟩
        rw [hlen] at hk
        rw [aI_wI, if_neg (fun z => by omega), aI_wI, ch_app1]
        by_cases e : k = c.length
        · rw [if_pos ⟨rfl, by omega⟩, if_neg (by omega), if_pos e]
        · rw [if_neg (fun z => by omega), if_pos (by omega)]; exact (c1.2.2 k (by omega)).1
      obtain ⟨w1, w2⟩ := u3.set (V' := wI (wI V3 170 (3 + c.length) (nI s)) 170 2 (nI (c.length + 1))) (lo' := lo) (m' := m) (c' := c ++ [s]) ((Fr.wI (P := fun y => y = 170) _ _ _ _ rfl).tr (Fr.wI _ _ _ _ rfl)) (by rw [aI_wI, if_neg (fun z => absurd z.2 (by decide)), aI_wI, if_neg (fun z => by omega)]; exact m4) (by rw [aI_wI, if_neg (fun z => absurd z.2 (by decide)), aI_wI, if_neg (fun z => by omega)]; exact m5) m6 hCv
      refine ⟨nI (c.length + 1), V2, _, ?_, ?_, k9, L, D, t, X, lo, m, c ++ [s], min n 5 + 1, psh n K (min n 5) (2, s), psh n Ss (min n 5 + 1) (lo, m, c ++ [s]), s2.fr (u2.tr w2) (fun y hy => hy), w1, hH.push ⟨by show 2 ≤ 3; decide, by show s < 100; omega, fun z => absurd z (by show ¬ (2 : Nat) = 0; decide), fun _ => by show ¬ c ++ [s] = []; simp, fun z => absurd z (by show ¬ (2 : Nat) = 3; decide)⟩ ?_ ⟨hmn.1, by show (c ++ [s]).length ≤ 16; omega, hcc⟩⟩
      · rw [hpre, r1, bd_s, s1, s2.1.2.2.2.1, ck_s hR.1, bd_s, Ro_size_s s2.2.2.1, bd_s, hlen]
      · show Mo_carve T V2 166 (nI s) = _
        rw [hmre V2 hM2, if_neg (by omega), u1, bd_s, g3, ck_s g1, bd_s, bd_s, g2, gd_s (inb_n (by omega) (by omega)), cl_n (by omega), c1.2.1, show (3 : Int32) = nI 3 from rfl, nI_add, gd_s (inb_n (by omega) (by omega)), lt, cl_n (by omega), fR_wI, g3, ck_s g1, bd_s, g2, gd_s (inb_n (by omega) (by omega)), gd_s (inb_n (by omega) (by omega)), lt, aI_wI, if_neg (fun z => by omega), c1.2.1, nI_1, fR_wI, fR_wI, g3, ck_s g1, bd_s, g2, gd_s (inb_n (by omega) (by omega)), aI_wI, if_pos ⟨rfl, rfl⟩]
      · show (lo, m, (c ++ [s]).dropLast) = (lo, m, c)
        rw [List.dropLast_concat]
  · refine ⟨-1, V, V, ?_, ?_, h0⟩
    · rw [RS_carve, b9, ck_s hX.1.1, bd_s, signAt_n hX hx, bd_s]
    · show Mo_carve T V 166 x = _
      rw [Mo_carve, isSign_f hM.1 hx, bd_s, if_pos rfl]
theorem j_chip (h : Rel T V) : Jn T (RS_chip T V 0) (fun V1 => Mo_chip T V1 166) := by
  have h0 := h
  obtain ⟨k9, L, D, t, X, lo, m, c, n, K, Ss, hC, hM, hH⟩ := h
  have hp := hC.1
  obtain ⟨b1, b2, b3, b4, b5, b6, b7, b8, b9, d1, d2⟩ := hp
  have hX := hC.2.2.2.2.2.2.2.1
  have n12 := hX.2.1.1
  have hR := hC.2.2.1
  have c16 := hM.2.1.1
  by_cases e : c = []
  · subst e
    obtain ⟨-, -, -, ⟨g1, g2, g3⟩, -⟩ := hM.1.1
    refine ⟨-2, V, V, ?_, ?_, h0⟩
    · rw [RS_chip, b4, ck_s hR.1, bd_s, Ro_size_s hR, bd_s]; rfl
    · show Mo_chip T V 166 = _
      rw [Mo_chip, g3, ck_s g1, bd_s, show (2 : Int32) = nI 2 from rfl, g2, gd_s (inb_n (by omega) (by omega)), cl_n (by omega), hM.2.1.2.1]; rfl
  · obtain ⟨l, a, rfl⟩ : ∃ l a, c = l ++ [a] := ⟨c.dropLast, c.getLast e, (List.dropLast_concat_getLast e).symm⟩
    have hlen : (l ++ [a]).length = l.length + 1 := by simp
    rw [hlen] at c16
    obtain ⟨V1, r1, r2, r3⟩ := Ro_drop_s hR
    obtain ⟨rc1, rf1⟩ := hC.row (r2.mo fun y hy => Or.inl hy) r3
    obtain ⟨V2, s1, s2, s3⟩ := cpush_s rc1 3 a
    have hM2 := hM.fc (rf1.tr s3)
    obtain ⟨V3, u1, u2, u3⟩ := hM2.note hH (lo, m, l)
    have hmn := hH.2.2.2 n (Nat.le_refl n)
    rw [hH.2.1] at hmn
    obtain ⟨q1, q2, q3⟩ := hmn
    have ha : ch (l ++ [a]) l.length = a := by rw [ch_app1, if_neg (by omega), if_pos rfl]
    have hl : ∀ k, k < l.length → ch (l ++ [a]) k = ch l k := fun k hk => by rw [ch_app1, if_pos hk]
    have ha2 : a < ns X := by
      have := q3 l.length (by show l.length < (l ++ [a]).length; omega)
      have q : ch (l ++ [a]) l.length < ns X := this
      rw [ha] at q; exact q
    have hl2 : ∀ k, k < l.length → ch l k < ns X := fun k hk => by
      have : ch (l ++ [a]) k < ns X := q3 k (by show k < (l ++ [a]).length; omega)
      rw [hl k hk] at this; exact this
    have u3' := u3
    obtain ⟨⟨m1, m2, m3, m4, m5, m6, m7⟩, c1, -, -⟩ := u3'
    obtain ⟨-, -, -, ⟨g1, g2, g3⟩, -⟩ := m1
    obtain ⟨-, c2, c3⟩ := c1
    rw [hlen] at c2 c3
    have hCv : CvAt (wI V3 170 2 (nI l.length)) X l := by
      refine ⟨by omega, by rw [aI_wI, if_pos ⟨rfl, rfl⟩], fun k hk => ⟨?_, hl2 k hk⟩⟩
      rw [aI_wI, if_neg (fun z => by omega), (c3 k (by omega)).1, hl k hk]
    obtain ⟨w1, w2⟩ := u3.set (V' := wI V3 170 2 (nI l.length)) (lo' := lo) (m' := m) (c' := l) (Fr.wI _ _ _ _ rfl) (by rw [aI_wI, if_neg (fun z => absurd z.2 (by decide))]; exact m4) (by rw [aI_wI, if_neg (fun z => absurd z.2 (by decide))]; exact m5) m6 hCv
    refine ⟨nI a, V2, wI V3 170 2 (nI l.length), ?_, ?_, k9, L, D, t, X, lo, m, l, min n 5 + 1, psh n K (min n 5) (3, a), psh n Ss (min n 5 + 1) (lo, m, l), s2.fr (u2.tr w2) (fun y hy => hy), w1, hH.push ⟨by show 3 ≤ 3; decide, by show a < 100; omega, fun z => absurd z (by show ¬ (3 : Nat) = 0; decide), fun z => absurd z (by show ¬ (3 : Nat) = 2; decide), fun _ => ⟨ha2, by show l.length < 16; omega⟩⟩ rfl ⟨q1, by show l.length ≤ 16; omega, hl2⟩⟩
    · rw [RS_chip, b4, ck_s hR.1, bd_s, Ro_size_s hR, bd_s, hlen, if_neg (nI_ne0 (by omega) (by omega)), bd_s, r1, bd2_s, show (3 : Int32) = nI 3 from rfl, s1]
    · show Mo_chip T V2 166 = _
      obtain ⟨-, -, -, ⟨f1, f2, f3⟩, -⟩ := hM2.1.1
      have h2c := hM2.2.1.2.1
      rw [hlen] at h2c
      rw [Mo_chip, f3, ck_s f1, bd_s, show (2 : Int32) = nI 2 from rfl, f2, gd_s (inb_n (by omega) (by omega)), cl_n (by omega), h2c, if_neg (nI_ne0 (by omega) (by omega)), u1, bd_s, g3, ck_s g1, bd_s, g2, gd_s (inb_n (by omega) (by omega)), gd_s (inb_n (by omega) (by omega)), lt, c2, nI_pred, fR_wI, g3, ck_s g1, bd_s, bd_s, g2, gd_s (inb_n (by omega) (by omega)), aI_wI, if_pos ⟨rfl, rfl⟩, show (3 : Int32) = nI 3 from rfl, nI_add, gd_s (inb_n (by omega) (by omega)), cl_n (by omega), aI_wI, if_neg (fun z => by omega), (c3 l.length (by omega)).1, ha]
/-- the class takes the last change back -/
theorem c_un (hC : RC T V L D t X lo m c n K) {e : Nat × Nat} (hv : vl X e (lo, m, c)) (ho : SnOk X (un e (lo, m, c))) (hcl : ∀ k, k < c.length → ch c k < ns X) :
    ∃ V', (if nI e.1 = 0 then bd (ck T 2 (fR V 806 0)) (fun r25 => bd (Lx_signAt T V r25 (nI e.2)) (fun r30 => gd (cko T 6 r30) (bd (RS_turn T V 0 r30) (fun V33 => some V33)))) else if nI e.1 = 1 then bd (RS_turnLaw T V 0) (fun V37 => some V37) else if nI e.1 = 2 then bd (ck T 4 (fR V 801 0)) (fun r40 => bd2 (Ro_drop T V r40) (fun r46 V45 => some V45)) else bd (ck T 4 (fR V 801 0)) (fun r48 => bd (Ro_put T V r48 (nI e.2)) (fun V53 => some V53))) = some V' ∧ RC T V' L D t X (un e (lo, m, c)).1 (un e (lo, m, c)).2.1 (un e (lo, m, c)).2.2 n K ∧ FC V V' := by
  obtain ⟨k, v⟩ := e
  obtain ⟨v1, v2, v3, v4, v5⟩ := hv
  have hp := hC.1
  obtain ⟨b1, b2, b3, b4, b5, b6, b7, b8, b9, d1, d2⟩ := hp
  have hX := hC.2.2.2.2.2.2.2.1
  have n12 := hX.2.1.1
  have hR := hC.2.2.1
  match k, v1, v3, v4, v5, ho with
  | 0, _, v3, _, _, _ =>
    have hs : v < ns X := v3 rfl
    obtain ⟨V', r1, r2, r3⟩ := turn_s hC hs
    refine ⟨V', ?_, r2, r3⟩
    rw [if_pos nI_0, b9, ck_s hX.1.1, bd_s, signAt_s hX hs, bd_s, gd_s (cko_s (hX.sgn hs).1), r1, bd_s]
  | 1, _, _, _, _, _ =>
    obtain ⟨V', r1, r2, r3⟩ := turnLaw_s hC
    refine ⟨V', ?_, r2, r3⟩
    rw [if_neg (show ¬ nI (1, v).1 = 0 by show ¬ nI 1 = 0; decide), if_pos (show nI (1, v).1 = 1 from rfl), r1, bd_s]
  | 2, _, _, v4, _, _ =>
    have hne : c ≠ [] := v4 rfl
    obtain ⟨l, a, rfl⟩ : ∃ l a, c = l ++ [a] := ⟨c.dropLast, c.getLast hne, (List.dropLast_concat_getLast hne).symm⟩
    obtain ⟨V', r1, r2, r3⟩ := Ro_drop_s hR
    have := hC.row (r2.mo fun y hy => Or.inl hy) r3
    refine ⟨V', ?_, ?_⟩
    · rw [if_neg (show ¬ nI (2, v).1 = 0 by show ¬ nI 2 = 0; decide), if_neg (show ¬ nI (2, v).1 = 1 by show ¬ nI 2 = 1; decide), if_pos (show nI (2, v).1 = 2 from rfl), b4, ck_s hR.1, bd_s, r1, bd2_s]
    · have hd : (un (2, v) (lo, m, l ++ [a])).2.2 = l := List.dropLast_concat
      rw [hd]
      exact this
  | 3, _, _, _, v5, _ =>
    obtain ⟨hs, hl⟩ := v5 rfl
    obtain ⟨V', r1, r2, r3⟩ := Ro_put_s hR v (by omega) hl
    refine ⟨V', ?_, hC.row r2 r3⟩
    rw [if_neg (show ¬ nI (3, v).1 = 0 by show ¬ nI 3 = 0; decide), if_neg (show ¬ nI (3, v).1 = 1 by show ¬ nI 3 = 1; decide), if_neg (show ¬ nI (3, v).1 = 2 by show ¬ nI 3 = 2; decide), b4, ck_s hR.1, bd_s, r1, bd_s]
  | k + 4, v1, _, _, _, _ => exact absurd v1 (by show ¬ k + 4 ≤ 3; omega)
theorem j_undo (h : Rel T V) : Jn T (RS_undo T V 0) (fun V1 => Mo_undo T V1 166) := by
  have h0 := h
  obtain ⟨k9, L, D, t, X, lo, m, c, n, K, Ss, hC, hM, hH⟩ := h
  have hp := hC.1
  obtain ⟨b1, b2, b3, b4, b5, b6, b7, b8, b9, d1, d2⟩ := hp
  have hX := hC.2.2.2.2.2.2.2.1
  have n12 := hX.2.1.1
  have hh := hC.2.2.2.2.1
  obtain ⟨f1, f2, f3, f4⟩ := hh
  cases n with
  | zero =>
    refine ⟨-2, V, V, ?_, ?_, h0⟩
    · rw [RS_undo, b6, ck_s f1.1, bd_s, Hi_size, f3, bd_s, if_pos nI_0]
    · exact mundo_0 hM.2.2.2
  | succ n =>
    obtain ⟨p1, p2, p3⟩ := hH.pop
    have hso := p1.2.2.2 n (Nat.le_refl n)
    rw [p3] at hso
    have hsn := hH.2.2.2 (n + 1) (Nat.le_refl _)
    rw [hH.2.1] at hsn
    obtain ⟨V1, r1, r2, r3⟩ := c_un hC p2 hso hsn.2.2
    have hh1 := r2.2.2.2.2.1
    have hF2 : Fr (fun y => 7 ≤ y ∧ y ≤ 9) V1 (sI V1 2 7 (nI n)) := Fr.sI _ _ _ _ (by omega)
    obtain ⟨s1, s2⟩ := r2.hist hF2 (n' := n) (K' := K) ⟨hh1.1.fr hF2, by omega, by rw [fI_sI, if_pos ⟨rfl, rfl⟩], fun i hi => by rw [aI_sI, aI_sI]; exact hh1.2.2.2 i (by omega)⟩
    have hM2 := hM.fc (r3.tr s2)
    obtain ⟨V3, u1, u2, u3, u4⟩ := mundo_s hM2.1.1 hM2.2.2.2 (fun i hi => (hH.2.2.2 i (by omega)).2.1)
    rw [p3] at u4
    obtain ⟨⟨m1, m2, m3, m4, m5, m6, m7⟩, c1, t1, -⟩ := hM2
    obtain ⟨c1', c2', c3', c4', c5', c6', c7'⟩ := f1
    refine ⟨nI n, sI V1 2 7 (nI n), V3, ?_, u1, k9, L, D, t, X, (un (K n) (lo, m, c)).1, (un (K n) (lo, m, c)).2.1, (un (K n) (lo, m, c)).2.2, n, K, Ss, s1.fr u2.1 (fun y hy => by omega), ⟨⟨m1.fr u2.1, m2, m3.fr u2.1 (by omega), u4.1, u4.2.1, Nat.lt_of_lt_of_le hso.1 (Nat.pow_le_pow_right (by decide) n12), m7⟩, ⟨hso.2.1, u4.2.2.1, fun k hk => ⟨u4.2.2.2 k hk, hso.2.2 k hk⟩⟩, ⟨t1.1, by rw [u2.2 900 (by decide)]; exact t1.2.1, fun k hk => by rw [u2.1.2.2.2.1 _ _ (by omega)]; exact t1.2.2.1 k hk, t1.2.2.2⟩, u3⟩, p1⟩
    rw [RS_undo, b6, ck_s c1', bd_s, Hi_size, f3, bd_s, if_neg (nI_ne0 (by omega) (by omega)), bd_s, Hi_lastValue, f3, show (6 : Int32) = nI 6 from rfl, show (0 : Int32) = nI 0 from rfl, if_le (by omega) (by omega), if_neg (by omega), if_ltn (by omega) (by omega), if_neg (by omega), c7', ck_s c4', bd_s, nI_pred, c5', gd_s (inb_n (by omega) (by omega)), cl_n (by omega), bd_s, bd_s, Hi_lastKind, f3, show (6 : Int32) = nI 6 from rfl, show (0 : Int32) = nI 0 from rfl, if_le (by omega) (by omega), if_neg (by omega), if_ltn (by omega) (by omega), if_neg (by omega), c6', ck_s c2', bd_s, nI_pred, c3', gd_s (inb_n (by omega) (by omega)), cl_n (by omega), bd_s, (f4 n (by omega)).1, (f4 n (by omega)).2, show nI 0 = (0 : Int32) from rfl, r1, bd_s, r2.1.2.2.2.2.2.1, ck_s c1', bd_s, Hi_drop, hh1.2.2.1, if_neg (nI_nle (by omega) (by omega)), lt, nI_pred, bd_s, fR_sI, r2.1.2.2.2.2.2.1, ck_s c1', bd_s, Hi_size, fI_sI, if_pos ⟨rfl, rfl⟩, bd_s]
end CU
