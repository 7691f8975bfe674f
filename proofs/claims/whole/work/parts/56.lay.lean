/-! ===== lay ===== -/
section LA
variable {T : Tx} {V V' : Vx} {L D : Nat} {t t' : List Nat} {X : Lex} {lo : Bool} {m : Nat} {c : List Nat} {n : Nat} {K : Nat → Nat × Nat} {Ss : Nat → Snap}
/-- the two lexicons change places -/
def swp (V : Vx) (a b : Nat) : Vx := sR (sR V 806 0 (some a)) 807 0 (some b)
theorem swp_fR (V : Vx) (a b f x : Nat) (h : f ≠ 806) (h2 : f ≠ 807) : fR (swp V a b) f x = fR V f x := by
  unfold swp
  rw [fR_sR, if_neg (fun z => h2 z.1), fR_sR, if_neg (fun z => h z.1)]
theorem swp_fI (V : Vx) (a b f x : Nat) : fI (swp V a b) f x = fI V f x := rfl
theorem swp_aI (V : Vx) (a b x i : Nat) : aI (swp V a b) x i = aI V x i := rfl
theorem swp_aR (V : Vx) (a b x i : Nat) : aR (swp V a b) x i = aR V x i := rfl
theorem LetAt.sw {a r cap : Nat} {l : List Nat} (h : LetAt T V a r cap l) (x y : Nat) : LetAt T (swp V x y) a r cap l := by
  unfold LetAt
  rw [swp_fR _ _ _ _ _ (by decide) (by decide)]
  exact h
theorem LetSh.sw {a r cap : Nat} (h : LetSh T V a r cap) (x y : Nat) : LetSh T (swp V x y) a r cap := by
  unfold LetSh
  rw [swp_fR _ _ _ _ _ (by decide) (by decide)]
  exact h
theorem RowAt.sw {a r cap : Nat} {l : List Nat} (h : RowAt T V a r cap l) (x y : Nat) : RowAt T (swp V x y) a r cap l := by
  unfold RowAt
  rw [swp_fR _ _ _ _ _ (by decide) (by decide)]
  exact h
theorem RowSh.sw {a r cap : Nat} (h : RowSh T V a r cap) (x y : Nat) : RowSh T (swp V x y) a r cap := by
  unfold RowSh
  rw [swp_fR _ _ _ _ _ (by decide) (by decide)]
  exact h
theorem HiSh.sw (h : HiSh T V) (x y : Nat) : HiSh T (swp V x y) := by
  unfold HiSh
  rw [swp_fR _ _ _ _ _ (by decide) (by decide), swp_fR _ _ _ _ _ (by decide) (by decide)]
  exact h
theorem ScSh.sw (h : ScSh T V) (x y : Nat) : ScSh T (swp V x y) := by
  obtain ⟨a1, a2, a3, a4, a5, a6, a7, a8, a9, a10, a11, b1, b2, b3, b4, b5, b6⟩ := h
  refine ⟨a1, a2, a3, a4, a5, a6, a7, a8, a9, a10, a11, ?_, ?_, ?_, ?_, ?_, fun w hw => ⟨(b6 w hw).1, (b6 w hw).2.sw x y⟩⟩
  · rw [swp_fR _ _ _ _ _ (by decide) (by decide)]; exact b1
  · rw [swp_fR _ _ _ _ _ (by decide) (by decide)]; exact b2
  · rw [swp_fR _ _ _ _ _ (by decide) (by decide)]; exact b3
  · rw [swp_fR _ _ _ _ _ (by decide) (by decide)]; exact b4
  · rw [swp_fR _ _ _ _ _ (by decide) (by decide)]; exact b5
theorem RdSh.sw (h : RdSh T V) (x y : Nat) : RdSh T (swp V x y) := by
  obtain ⟨a1, a2, a3, a4, a5, a6, a7, a8, a9, a10, b1, b2, b3, b4, b5⟩ := h
  refine ⟨a1, a2, a3, a4, a5, a6, a7, a8, a9, a10, ?_, ?_, ?_, ?_, ?_⟩
  · rw [swp_fR _ _ _ _ _ (by decide) (by decide)]; exact b1
  · rw [swp_fR _ _ _ _ _ (by decide) (by decide)]; exact b2
  · rw [swp_fR _ _ _ _ _ (by decide) (by decide)]; exact b3
  · rw [swp_fR _ _ _ _ _ (by decide) (by decide)]; exact b4
  · rw [swp_fR _ _ _ _ _ (by decide) (by decide)]; exact b5
theorem LexSh.sw (h : LexSh T V L) (x y : Nat) : LexSh T (swp V x y) L := by
  obtain ⟨a1, a2, a3, a4, a5, a6, a7, a8, a9⟩ := h
  refine ⟨a1, ?_, a3, a4, ?_, a6, a7, fun s hs => ?_, fun w hw => ?_⟩
  · rw [swp_fR _ _ _ _ _ (by decide) (by decide)]; exact a2
  · rw [swp_fR _ _ _ _ _ (by decide) (by decide)]; exact a5
  · obtain ⟨z1, z2, z3, z4⟩ := a8 s hs
    exact ⟨z1, z2, by rw [swp_fR _ _ _ _ _ (by decide) (by decide)]; exact z3, z4.sw x y⟩
  · obtain ⟨z1, z2, z3, z4⟩ := a9 w hw
    exact ⟨z1, z2, by rw [swp_fR _ _ _ _ _ (by decide) (by decide)]; exact z3, z4.sw x y⟩
theorem LexAt.sw {st : Nat → Bool} (h : LexAt T V L X lo st) (x y : Nat) : LexAt T (swp V x y) L X lo st := by
  obtain ⟨h1, h2, h3, h4, h5, h6, h7⟩ := h
  refine ⟨h1.sw x y, h2, h3, h4, h5, fun s hs => ?_, fun w hw => ?_⟩
  · obtain ⟨z1, z2, z3, z4⟩ := h6 s hs
    exact ⟨z1, z2, z3, z4.sw x y⟩
  · obtain ⟨z1, z4⟩ := h7 w hw
    exact ⟨z1, z4.sw x y⟩
theorem FC.sw (V : Vx) (x y : Nat) : FC V (swp V x y) := fun a ha => ⟨fun _ => rfl, fun f => by
  unfold swp
  rw [fR_sR, if_neg (fun z => by omega), fR_sR, if_neg (fun z => by omega)], fun _ => rfl, fun _ => rfl⟩
theorem pfF_lt (t : List Nat) : ∀ (n : Nat) (X : Lex × Bool) (s v : Nat), (pfF t n X s).1 = some v → v < t.length := by
  intro n
  induction n with
  | zero => intro X s v h; cases h
  | succ n ih =>
    intro X s v h
    rw [pfF] at h
    by_cases e : t.length ≤ s
    · rw [if_pos e] at h; cases h
    · rw [if_neg e] at h
      cases hf : fdF t 59 (t.length - s) s with
      | none => rw [hf] at h; cases h; omega
      | some e1 =>
        rw [hf] at h
        dsimp only at h
        cases hi : itm X.1 X.2 t s e1 with
        | none => rw [hi] at h; cases h; omega
        | some Y => rw [hi] at h; exact ih Y (e1 + 1) v h
theorem lay36 : ∀ (d n k : Nat) (V : Vx), k + d = 167 → d < n → MoSh T V → ∃ V', Mo_lay_L36 T 166 n V (nI k) = some V' ∧ Fr (fun y => y = 168) V V' ∧ (∀ f a, fI V' f a = fI V f a) ∧ ∀ i, aI V' 168 i = if k ≤ i ∧ i < 167 then aI V 169 i else aI V 168 i := by
  intro d
  induction d with
  | zero =>
    intro n k V hk hn hM
    obtain ⟨n, rfl⟩ : ∃ m, n = m + 1 := ⟨n - 1, by omega⟩
    refine ⟨V, ?_, Fr.rf, fun _ _ => rfl, fun i => by rw [if_neg (by omega)]⟩
    rw [Mo_lay_L36, show (167 : Int32) = nI 167 from rfl, if_le (by omega) (by omega), if_pos (by omega)]
  | succ d ih =>
    intro n k V hk hn hM
    obtain ⟨n, rfl⟩ : ∃ m, n = m + 1 := ⟨n - 1, by omega⟩
    have hM' := hM
    obtain ⟨-, ⟨b1, b2, b3⟩, ⟨c1, c2, c3⟩, -⟩ := hM'
    have hF : Fr (fun y => y = 168) V (wI V 168 k (aI V 169 k)) := Fr.wI _ _ _ _ rfl
    obtain ⟨V', g1, g2, g3, g4⟩ := ih n (k + 1) (wI V 168 k (aI V 169 k)) (by omega) (by omega) (hM.fr hF)
    refine ⟨V', ?_, hF.tr g2, fun f a => by rw [g3]; rfl, fun i => ?_⟩
    · rw [Mo_lay_L36, show (167 : Int32) = nI 167 from rfl, if_le (by omega) (by omega), if_neg (by omega), b3, ck_s b1, bd_s, c3, ck_s c1, bd_s, c2, gd_s (inb_n (by omega) (by omega)), b2, gd_s (inb_n (by omega) (by omega)), lt, cl_n (by omega), nI_1]
      exact g1
    · rw [g4]
      by_cases e : k + 1 ≤ i ∧ i < 167
      · rw [if_pos e, if_pos (by omega), aI_wI, if_neg (fun z => absurd z.1 (by decide))]
      · rw [if_neg e, aI_wI]
        by_cases e2 : i = k
        · rw [if_pos ⟨rfl, e2⟩, if_pos (by omega), e2]
        · rw [if_neg (fun z => e2 z.2), if_neg (by omega)]
theorem stM_0 : stM 0 = st0 := by
  funext i
  unfold stM st0
  exact Nat.zero_testBit i
/-- the class lays what it has read -/
theorem c_lay (hC : RC T V L D t X lo m c n K) {X' : Lex} {lo' : Bool} (hX : LexAt T V D X' lo' st0) :
    ∃ V', (bd (ck T 2 (fR V 806 0)) (fun r23 => bd (ck T 2 (fR V 807 0)) (fun r27 => lt (sR V 806 0 (some r27)) (fun V31 => lt (sR V31 807 0 (some r23)) (fun V33 => bd (ck T 4 (fR V33 801 0)) (fun r35 => bd (Ro_clear T V33 r35) (fun V40 => bd (ck T 0 (fR V40 803 0)) (fun r41 => bd (Hi_clear T V40 r41) (fun V46 => bd (ck T 5 (fR V46 804 0)) (fun r47 => bd (Sc_forget T V46 r47) (fun V52 => bd (ck T 2 (fR V52 806 0)) (fun r53 => some ((fI V52 202 r53), V52))))))))))))) = some (nI (ns X'), V') ∧ FC V V' ∧ RC T V' D L t X' lo' 0 [] 0 K := by
  obtain ⟨a1, a2, a3, a4, a5, a6, a7, a8, a9⟩ := hC
  obtain ⟨b1, b2, b3, b4, b5, b6, b7, b8, b9, d1, d2⟩ := a1
  obtain ⟨W, hW⟩ : ∃ W, W = swp V D L := ⟨_, rfl⟩
  have w1 : fR W 801 0 = some 3 := by rw [hW, swp_fR _ _ _ _ _ (by decide) (by decide)]; exact b4
  have w3 : fR W 803 0 = some 7 := by rw [hW, swp_fR _ _ _ _ _ (by decide) (by decide)]; exact b6
  have w4 : fR W 804 0 = some 10 := by rw [hW, swp_fR _ _ _ _ _ (by decide) (by decide)]; exact b7
  have w6 : fR W 806 0 = some D := by rw [hW]; rfl
  have w7 : fR W 807 0 = some L := by rw [hW]; rfl
  obtain ⟨V2, p1, p2, p3⟩ := Ro_clear_s (T := T) (V := W) (by rw [hW]; exact (a3.sh).sw D L)
  obtain ⟨V3, hV3⟩ : ∃ V3, V3 = sI (sI V2 2 7 0) 505 10 0 := ⟨_, rfl⟩
  have hF3 : Fr (fun y => y = 7 ∨ y = 10) V2 V3 := by
    rw [hV3]
    exact (Fr.sI (P := fun y => y = 7 ∨ y = 10) _ _ _ _ (Or.inl rfl)).tr (Fr.sI _ _ _ _ (Or.inr rfl))
  have hF : Fr (fun y => y = 3 ∨ y = 7 ∨ y = 10) W V3 := (p2.mo (fun y hy => Or.inl hy)).tr (hF3.mo (fun y hy => Or.inr hy))
  have hXW : LexAt T V3 D X' lo' st0 := by
    refine LexAt.fr (V := W) ?_ hF (fun a h1 h2 => by omega)
    rw [hW]; exact hX.sw D L
  refine ⟨V3, ?_, ?_, ⟨b1, b2, ?_, ?_, ?_, ?_, ?_, ?_, ?_, ?_, by omega⟩, ?_, ?_, ?_, ?_, ?_, ?_, ?_, ?_⟩
  · rw [b9, ck_s a8.1.1, bd_s, d1, ck_s a9.1, bd_s, lt, lt, show sR (sR V 806 0 (some D)) 807 0 (some L) = W from hW.symm, w1, ck_s a3.1, bd_s, p1, bd_s, p2.1, w3, ck_s a5.1.1, bd_s, Hi_clear, lt, bd_s, fR_sI, p2.1, w4, ck_s a6.1.1, bd_s, Sc_forget, lt, bd_s, ← hV3, hF3.1, p2.1, w6, ck_s a9.1, bd_s, hXW.2.2.1]
  · refine (FC.sw V D L).tr ?_
    rw [← hW]
    exact FC.of hF (fun y hy => by omega)
  · rw [hF.1, hW, swp_fR _ _ _ _ _ (by decide) (by decide)]; exact b3
  · rw [hF.1]; exact w1
  · rw [hF.1, hW, swp_fR _ _ _ _ _ (by decide) (by decide)]; exact b5
  · rw [hF.1]; exact w3
  · rw [hF.1]; exact w4
  · rw [hF.1, hW, swp_fR _ _ _ _ _ (by decide) (by decide)]; exact b8
  · rw [hF.1]; exact w6
  · rw [hF.1]; exact w7
  · refine LetAt.fr (V := W) ?_ hF (by omega) (by omega)
    rw [hW]; exact a2.sw D L
  · exact p3.fr hF3 (by omega) (by omega)
  · refine RowSh.fr (V := W) ?_ hF
    rw [hW]; exact a4.sw D L
  · refine ⟨HiSh.fr (V := W) (by rw [hW]; exact a5.1.sw D L) hF, by omega, ?_, fun i hi => absurd hi (Nat.not_lt_zero i)⟩
    rw [hV3, fI_sI, if_neg (fun z => absurd z.1 (by decide)), fI_sI, if_pos ⟨rfl, rfl⟩]; rfl
  · refine ⟨ScSh.fr (V := W) (by rw [hW]; exact a6.1.sw D L) hF, Or.inl ?_⟩
    rw [hV3, fI_sI, if_pos ⟨rfl, rfl⟩]
  · refine RdSh.fr (V := W) (by rw [hW]; exact a7.sw D L) hF
  · rw [stM_0]; exact hXW
  · refine LexAt.sh' (V := W) (by rw [hW]; exact a8.1.sw D L) hF
theorem j_lay (h : Rel T V) : Jn T (RS_lay T V 0) (fun V1 => Mo_lay T V1 166) := by
  obtain ⟨k9, L, D, t, X, lo, m, c, n, K, Ss, hC, hM, hH⟩ := h
  have hp := hC.1
  obtain ⟨b1, b2, b3, b4, b5, b6, b7, b8, b9, d1, d2⟩ := hp
  have ht := hC.2.1
  have hD := hC.2.2.2.2.2.2.2.2
  obtain ⟨V1, p1, p2, p3⟩ := firstFault_s (by omega) hD ht
  have hM1 := hM.fc (FC.of p2 (fun y hy => by omega))
  have hC1 := hC.draft p2
  have hpf : ∀ v, (pf t).1 = some v → v < 2 ^ 31 := fun v hv => by
    have := pfF_lt t _ _ _ _ hv
    have := ht.2.2.2.2.2.2.1
    omega
  have hok : OkX (pf t).2.1 := pfF_ok t _ _ _ OkX.nil
  have n12 := hok.1.1
  have n8 := hok.1.2.1
  have hpre : RS_lay T V 0 = if (pf t).1 = none then (if ns (pf t).2.1 = 0 then some (-2, V1) else if nw (pf t).2.1 = 0 then some (-2, V1) else (bd (ck T 2 (fR V1 806 0)) (fun r23 => bd (ck T 2 (fR V1 807 0)) (fun r27 => lt (sR V1 806 0 (some r27)) (fun V31 => lt (sR V31 807 0 (some r23)) (fun V33 => bd (ck T 4 (fR V33 801 0)) (fun r35 => bd (Ro_clear T V33 r35) (fun V40 => bd (ck T 0 (fR V40 803 0)) (fun r41 => bd (Hi_clear T V40 r41) (fun V46 => bd (ck T 5 (fR V46 804 0)) (fun r47 => bd (Sc_forget T V46 r47) (fun V52 => bd (ck T 2 (fR V52 806 0)) (fun r53 => some ((fI V52 202 r53), V52)))))))))))))) else some (-2, V1) := by
    have d1' : fR V1 807 0 = some D := by rw [p2.1]; exact d1
    rw [RS_lay, b3, ck_s ht.1, bd_s, d1, ck_s hD.1, bd_s, p1, bd2_s, oI_n4 _ hpf, d1', ck_s hD.1, bd_s, p3.2.2.1, show (0 : Int32) = nI 0 from rfl, if_eqn (by omega) (by omega), bd_s, p3.2.2.2.1, if_eqn (by omega) (by omega)]
  obtain ⟨V2, q1, q2, q3⟩ := mfault_s hM1.1.1 hM1.2.2.1
  have hM2 := hM1.frf q2
  have hMS := hM2.1.1
  have hno : Rel T V2 := ⟨k9, L, D, t, X, lo, m, c, n, K, Ss, hC1.fr q2.1 (fun y hy => by omega), hM2, hH⟩
  by_cases e1 : (pf t).1 = none
  · obtain ⟨r1, r2⟩ := q3 e1
    rw [if_pos e1] at hpre
    have hMS' := hMS
    obtain ⟨-, ⟨g1, g2, g3⟩, ⟨c1, c2, c3⟩, -⟩ := hMS'
    have hmre : Mo_lay T V1 166 = if ns (pf t).2.1 = 0 then some (-2, V2) else if nw (pf t).2.1 = 0 then some (-2, V2) else bd (Mo_lay_L36 T 166 FU V2 (nI 0)) (fun V22 => bd (Mo_anew T V22 166) (fun V39 => bd (ck T 11 (fR V39 903 166)) (fun r40 => gd (inb (nI 164) (ln T r40)) (some ((aI V39 r40 (nI 164).toNatClampNeg), V39))))) := by
      rw [Mo_lay, q1, bd2_s, oI_n4 _ hpf, if_pos e1, show (164 : Int32) = nI 164 from rfl, show (165 : Int32) = nI 165 from rfl, c3, ck_s c1, bd_s, c2, gd_s (inb_n (by omega) (by omega)), cl_n (by omega), r1.1, show (0 : Int32) = nI 0 from rfl, if_eqn (by omega) (by omega), bd_s, c2, gd_s (inb_n (by omega) (by omega)), cl_n (by omega), r1.2.1, if_eqn (by omega) (by omega)]
    by_cases e2 : ns (pf t).2.1 = 0
    · refine ⟨-2, V1, V2, by rw [hpre, if_pos e2], by show Mo_lay T V1 166 = _; rw [hmre, if_pos e2], hno⟩
    by_cases e3 : nw (pf t).2.1 = 0
    · refine ⟨-2, V1, V2, by rw [hpre, if_neg e2, if_pos e3], by show Mo_lay T V1 166 = _; rw [hmre, if_neg e2, if_pos e3], hno⟩
    rw [if_neg e2, if_neg e3] at hpre hmre
    obtain ⟨V3, s1, s2, s3⟩ := c_lay hC1 p3
    -- the Model goes on from V3, not from V1: its own part is the same
    have hM3 := hM1.fc s2
    obtain ⟨V4, u1, u2, u3⟩ := mfault_s hM3.1.1 hM3.2.2.1
    obtain ⟨r1, r2⟩ := u3 e1
    have hM4 := hM3.frf u2
    have hMS := hM4.1.1
    have hMS' := hMS
    obtain ⟨-, ⟨g1, g2, g3⟩, ⟨c1, c2, c3⟩, -⟩ := hMS'
    obtain ⟨V5, v1, v2, v3, v4⟩ := lay36 (T := T) 167 FU 0 V4 (by omega) (by rw [← FU_big]; omega) hMS
    have hM5 := hMS.fr v2
    have hT5 : ToldAt V5 168 (pf t).2.1 := by
      obtain ⟨z1, z2, z3, z4⟩ := r1
      obtain ⟨w1, w2, w3, w4, -⟩ := hok.1
      refine ⟨by rw [v4, if_pos (by omega)]; exact z1, by rw [v4, if_pos (by omega)]; exact z2, fun s hs => ?_, fun w hw => ?_⟩
      · obtain ⟨y1, y2, y3, y4⟩ := z3 s hs
        have hl := (w3 s hs).2.2.2.2
        exact ⟨by rw [v4, if_pos (by omega)]; exact y1, by rw [v4, if_pos (by omega)]; exact y2, by rw [v4, if_pos (by omega)]; exact y3, fun k hk => by rw [v4, if_pos (by omega)]; exact y4 k hk⟩
      · obtain ⟨y1, y2, y3⟩ := z4 w hw
        have hl := (w4 w hw).2.2
        exact ⟨by rw [v4, if_pos (by omega)]; exact y1, by rw [v4, if_pos (by omega)]; exact y2, fun k hk => by rw [v4, if_pos (by omega)]; exact y3 k hk⟩
    obtain ⟨V6, x1, x2, x3, x4⟩ := anew_s (T := T) hM5 (lo := (pf t).2.2) (by rw [v4, if_pos (by omega)]; exact r2) (fun _ => ((pf t).2.2, 0, []))
    have hT6 : ToldAt V6 168 (pf t).2.1 := hT5.fr x2.1 (by omega)
    have hM6 := hM5.fr x2.1
    have hMF : Fr (fun y => 166 ≤ y) V3 V6 := ((u2.1.mo (fun y hy => by omega)).tr (v2.mo (fun y hy => by omega))).tr (x2.1.mo (fun y hy => by omega))
    have hsn : SnOk (pf t).2.1 ((pf t).2.2, 0, []) := ⟨Nat.two_pow_pos _, Nat.zero_le 16, fun k (hk : k < 0) => absurd hk (Nat.not_lt_zero k)⟩
    refine ⟨nI (ns (pf t).2.1), V3, V6, by rw [hpre]; exact s1, ?_, k9, D, L, t, (pf t).2.1, (pf t).2.2, 0, [], 0, K, fun _ => ((pf t).2.2, 0, []), s3.fr hMF (fun y hy => hy), ⟨⟨hM6, hok.1, hT6, x4.1, x4.2.1, by decide, hok.2⟩, ⟨by decide, x4.2.2.1, fun k hk => absurd hk (Nat.not_lt_zero k)⟩, ?_, x3⟩, CHn.new hsn K⟩
    · show Mo_lay T V3 166 = _
      rw [Mo_lay, u1, bd2_s, oI_n4 _ hpf, if_pos e1, show (164 : Int32) = nI 164 from rfl, show (165 : Int32) = nI 165 from rfl, c3, ck_s c1, bd_s, c2, gd_s (inb_n (by omega) (by omega)), cl_n (by omega), r1.1, show (0 : Int32) = nI 0 from rfl, if_eqn (by omega) (by omega), if_neg e2, bd_s, c2, gd_s (inb_n (by omega) (by omega)), cl_n (by omega), r1.2.1, if_eqn (by omega) (by omega), if_neg e3, v1, bd_s, x1, bd_s, x2.1.1, v2.1, g3, ck_s g1, bd_s, g2, gd_s (inb_n (by omega) (by omega)), hT6.1]
    · have ht4 := hM4.2.2.1
      refine ⟨ht4.1, ?_, fun k hk => ?_, ht4.2.2.2⟩
      · rw [x2.2 900 (by decide), v3]; exact ht4.2.1
      · rw [x2.1.2.2.2.1 _ _ (by omega), v2.2.2.2.1 _ _ (by omega)]; exact ht4.2.2.1 k hk
  · rw [if_neg e1] at hpre
    refine ⟨-2, V1, V2, hpre, ?_, hno⟩
    show Mo_lay T V1 166 = _
    rw [Mo_lay, q1, bd2_s, oI_n4 _ hpf, if_neg e1]
end LA
