/-! ===== what the class's questions share ===== -/
section AS
variable {T : Tx} {V V' : Vx} {L D : Nat} {t : List Nat} {X : Lex} {lo : Bool} {m : Nat} {c : List Nat} {n : Nat} {K : Nat → Nat × Nat} {Ss : Nat → Snap}
/-- with the least writings found -/
def RS1 (T : Tx) (V : Vx) (L D : Nat) (t : List Nat) (X : Lex) (lo : Bool) (m : Nat) (c : List Nat) (n : Nat) (K : Nat → Nat × Nat) : Prop := RC T V L D t X lo m c n K ∧ fI V 505 10 = 1 ∧ ∀ w, w < nw X → RowAt T V (16 + 2 * w) (17 + 2 * w) 8 (lsW X lo (stM m) w)
theorem RS1.frq {P : Nat → Prop} (h : RS1 T V L D t X lo m c n K) (hF : Fr P V V') (hP : ∀ y, P y → y = 5 ∨ y = 6 ∨ y = 33) : RS1 T V' L D t X lo m c n K ∧ FC V V' := by
  obtain ⟨h1, h2, h3⟩ := h
  have n8 := h1.2.2.2.2.2.2.2.1.2.1.2.1
  have np : ∀ y, ¬ (y = 5 ∨ y = 6 ∨ y = 33) → ¬ P y := fun y a b => a (hP y b)
  have h2' : fI V' 505 10 = 1 := by rw [hF.2.2.1 _ _ (np _ (by omega))]; exact h2
  have h3' : ∀ w, w < nw X → RowAt T V' (16 + 2 * w) (17 + 2 * w) 8 (lsW X lo (stM m) w) := fun w hw => (h3 w hw).fr hF (np _ (by omega)) (np _ (by omega))
  exact ⟨⟨h1.frq hF (fun y hy => by have := hP y hy; omega) ⟨h1.2.2.2.2.2.1.1.fr hF, Or.inr ⟨h2', h3'⟩⟩, h2', h3'⟩, FC.of hF (fun y hy => by have := hP y hy; omega)⟩
theorem csettle_s (h : RC T V L D t X lo m c n K) : ∃ V', (∀ {γ : Type} (f : Vx → Option γ), bd (ck T 5 (fR V 804 0)) (fun r1 => bd (ck T 2 (fR V 806 0)) (fun r5 => bd (Sc_settle T V r1 r5) f)) = f V') ∧ RS1 T V' L D t X lo m c n K ∧ FC V V' := by
  have hX := h.2.2.2.2.2.2.2.1
  have hd := h.1.2.2.2.2.2.2.2.2.2.2
  obtain ⟨V', p1, p2, p3, p4, p5⟩ := settle_s (by omega) hX h.2.2.2.2.2.1
  refine ⟨V', fun f => ?_, ⟨h.frq p2 (fun y hy => by omega) ⟨p3, Or.inr ⟨p4, p5⟩⟩, p4, p5⟩, FC.of p2 (fun y hy => by omega)⟩
  rw [h.1.2.2.2.2.2.2.1, ck_s h.2.2.2.2.2.1.1.1, bd_s, h.1.2.2.2.2.2.2.2.2.1, ck_s hX.1.1, bd_s, p1, bd_s]
theorem ls_len (hX : WFX X) {st : Nat → Bool} {w : Nat} (hw : w < nw X) : (lsW X lo st w).length ≤ 8 ∧ (∀ k, k < (lsW X lo st w).length → ch (lsW X lo st w) k < ns X) ∧ ((lfW X lo st w = none ∧ lsW X lo st w = []) ∨ (lfW X lo st w = some (lsW X lo st w).length ∧ 0 < (lsW X lo st w).length)) := by
  cases hf : lfW X lo st w with
  | none =>
    rw [lsW_none hf]
    exact ⟨by decide, fun k hk => absurd hk (Nat.not_lt_zero k), Or.inl ⟨rfl, rfl⟩⟩
  | some q =>
    obtain ⟨h1, h2, h3, h4, -⟩ := lfW_s hX hw hf
    refine ⟨by omega, fun k hk => ?_, Or.inr ⟨by rw [h3], by omega⟩⟩
    unfold ch
    rw [List.getD_eq_getElem?_getD, List.getElem?_eq_getElem hk]
    exact h4 _ (List.getElem_mem hk)
/-- a row as it is looked at, whole -/
theorem lookw_s (h : RS1 T V L D t X lo m c n K) {ra rr rc : Nat} {l : List Nat} (hR : RowAt T V ra rr rc l) (hra : ra < 32) (hrr : rr < 32) (hl : ∀ k, k < l.length → ch l k < ns X) (h1 : 1 ≤ l.length) (h9 : l.length ≤ 9) :
    ∃ V', Re_look T V 32 L ra 0 = some V' ∧ Re_wordsBy T V' 32 (nI l.length) = some (nI (rd X lo (stM m) l)) ∧ Fr (fun y => y = 33) V V' := by
  have hX := h.1.2.2.2.2.2.2.2.1
  have hd := h.1.1.2.2.2.2.2.2.2.2.2.2
  have hS := h.1.2.2.2.2.2.2.1
  have hS' := hS
  obtain ⟨a1, a2, -, -, -, -, -, -, -, -, b1, -⟩ := hS'
  obtain ⟨V', p1, p2, p3, p4⟩ := look_s (a := 32) (r := 33) (fr_ := 0) hl (by omega) a1 a2 ⟨fun y h1 h2 => by omega, by omega, by omega⟩ hX hR b1
  refine ⟨V', p1, ?_, p2⟩
  rw [wordsBy_s a1 a2 (by rw [p2.1]; exact b1) h9, p4 _ h1 h9, if_pos (by omega), List.drop_zero, List.take_length]
set_option maxHeartbeats 1000000 in
theorem clearness_s (h : RS1 T V L D t X lo m c n K) {w : Nat} (hw : w < nw X) : ∃ V', RS_clearness T V 0 (nI w) = some (nI (clr X lo (stM m) w), V') ∧ RS1 T V' L D t X lo m c n K ∧ FC V V' := by
  have hC := h.1
  have hp := hC.1
  obtain ⟨b1, b2, b3, b4, b5, b6, b7, b8, b9, d1, d2⟩ := hp
  have hX := hC.2.2.2.2.2.2.2.1
  have n8 := hX.2.1.2.1
  have n12 := hX.2.1.1
  have hw5 := (hX.2.1.2.2.2.1 w hw).1
  have hS := hC.2.2.2.2.2.1.1
  have hRow := h.2.2 w hw
  obtain ⟨l1, l2, l3⟩ := ls_len (lo := lo) (st := stM m) hX.2.1 hw
  obtain ⟨k1, k2, k3, k4, k5⟩ := hX.wrd hw
  have pw : 2 ^ w < 2 ^ 31 := Nat.pow_lt_pow_right (by decide) (by omega)
  rw [RS_clearness, b7, ck_s hS.1, bd_s, rowOf_s hS (by omega), bd_s, b9, ck_s hX.1.1, bd_s, wordAt_s hX hw, bd_s]
  dsimp only
  rw [ck_s hRow.1, bd_s, Ro_size_s hRow, bd_s]
  unfold clr
  rcases l3 with ⟨e1, e2⟩ | ⟨e1, e2⟩
  · rw [e1, e2]
    exact ⟨V, rfl, h, FC.rf⟩
  · rw [e1, if_neg (nI_ne0 e2 (by omega)), lt, pow_n w (by omega), b8, ck_s b2, bd_s, bd_s]
    dsimp only
    obtain ⟨V1, p1, p2, p3⟩ := lookw_s h hRow (by omega) (by omega) l2 (by omega) (by omega)
    obtain ⟨h1, f1⟩ := h.frq p3 (fun y hy => by omega)
    have r256 := rd_lt X lo (stM m) (lsW X lo (stM m) w) n8
    have hX1 := h1.1.2.2.2.2.2.2.2.1
    have hp1 := h1.1.1
    obtain ⟨c1, c2, c3, c4, c5, c6, c7, c8, c9, e1', e2'⟩ := hp1
    rw [p1, bd_s, c8, ck_s b2, bd_s, Ro_size_s (h1.2.2 w hw), bd_s, p2, bd_s, if_eqn (by omega) (by omega)]
    by_cases q1 : rd X lo (stM m) (lsW X lo (stM m) w) = 2 ^ w
    · rw [if_pos q1, if_pos q1]
      exact ⟨V1, rfl, h1, f1⟩
    · rw [if_neg q1, if_neg q1, c9, ck_s hX.1.1, bd_s, ck_s k1, bd_s, (hX1.wrd hw).2.2.2.1, lowestMark_s hX1 _ (by omega), bd_s, oI_n4 _ (fun v hv => by obtain ⟨-, q2, -⟩ := fsF_in _ _ _ _ hv; omega)]
      cases hf : fsF (mk X (stM m) (wc X w)) (ns X) 0 with
      | none => rw [if_pos rfl]; exact ⟨V1, rfl, h1, f1⟩
      | some k =>
        obtain ⟨-, k12, -⟩ := fsF_in _ _ _ _ hf
        have h5 := h1.1.2.2.2.1
        obtain ⟨V2, s1, s2, s3⟩ := Ro_copy_s (T := T) (V := V1) (a := 5) (r := 6) (cap := 9) (a2 := 16 + 2 * w) (r2 := 17 + 2 * w) (c2 := 8) (l2 := lsW X lo (stM m) w) ⟨by omega, by omega, by omega, by omega⟩ (by omega) h5 (h1.2.2 w hw)
        obtain ⟨h2, f2⟩ := h1.frq s2 (fun y hy => by omega)
        obtain ⟨V3, u1, u2, u3⟩ := Ro_put_s s3 k (by omega) (by omega)
        obtain ⟨h3, f3⟩ := h2.frq u2 (fun y hy => by omega)
        have hlen : (lsW X lo (stM m) w ++ [k]).length = (lsW X lo (stM m) w).length + 1 := by simp
        obtain ⟨V4, v1, v2, v3⟩ := lookw_s h3 u3 (by omega) (by omega) (fun j hj => by
          rw [hlen] at hj
          rw [ch_app1]
          by_cases e : j < (lsW X lo (stM m) w).length
          · rw [if_pos e]; exact l2 j e
          · rw [if_neg e, if_pos (by omega)]; omega) (by omega) (by omega)
        obtain ⟨h4, f4⟩ := h3.frq v3 (fun y hy => by omega)
        have r256' := rd_lt X lo (stM m) (lsW X lo (stM m) w ++ [k]) n8
        have u4 := u3.fr v3 (by omega) (by omega)
        have g2 := h2.1.1.2.2.2.2.1
        have g3 := h3.1.1.2.2.2.2.1
        have g4 := h4.1.1.2.2.2.2.1
        dsimp only
        rw [if_neg (show ¬ (some k : Option Nat) = none by simp), c5, ck_s h5.1, bd_s, s1, bd_s, g2, ck_s h5.1, bd_s, show oI (some k) = nI k from rfl, u1, bd_s, h3.1.1.2.2.2.2.2.2.2.1, ck_s b2, bd_s, h3.1.1.2.2.2.2.2.2.2.2.1, ck_s hX.1.1, bd_s, g3, ck_s h5.1, bd_s, v1, bd_s, h4.1.1.2.2.2.2.2.2.2.1, ck_s b2, bd_s, g4, ck_s h5.1, bd_s, Ro_size_s u4, bd_s, v2, bd_s, if_eqn (by omega) (by omega)]
        by_cases q2 : rd X lo (stM m) (lsW X lo (stM m) w ++ [k]) = 2 ^ w
        · rw [if_pos q2, if_pos q2]
          exact ⟨V4, rfl, h4, ((f1.tr f2).tr f3).tr f4⟩
        · rw [if_neg q2, if_neg q2]
          exact ⟨V4, rfl, h4, ((f1.tr f2).tr f3).tr f4⟩
theorem mixedWith_l (h : RS1 T V L D t X lo m c n K) {w : Nat} (hw : w < nw X) : ∀ (d k a j : Nat), j + d = nw X → d < k →
    RS_mixedWith_L28 T V 0 (nI w) (16 + 2 * w) k (nI a) (nI j) = some (nI (a + ctF (fun v => !(decide (v = w)) && decide (lsW X lo (stM m) w = lsW X lo (stM m) v)) d j)) := by
  have hC := h.1
  have hp := hC.1
  obtain ⟨b1, b2, b3, b4, b5, b6, b7, b8, b9, d1, d2⟩ := hp
  have hX := hC.2.2.2.2.2.2.2.1
  have n8 := hX.2.1.2.1
  have hS := hC.2.2.2.2.2.1.1
  intro d
  induction d with
  | zero =>
    intro k a j hj hk
    obtain ⟨k, rfl⟩ : ∃ m, k = m + 1 := ⟨k - 1, by omega⟩
    rw [RS_mixedWith_L28, b9, ck_s hX.1.1, bd_s, hX.2.2.2.1, if_le (by omega) (by omega), if_pos (by omega)]
    rfl
  | succ d ih =>
    intro k a j hj hk
    obtain ⟨k, rfl⟩ : ∃ m, k = m + 1 := ⟨k - 1, by omega⟩
    have hR2 := h.2.2 j (by omega)
    rw [RS_mixedWith_L28, b9, ck_s hX.1.1, bd_s, hX.2.2.2.1, if_le (by omega) (by omega), if_neg (by omega), b7, ck_s hS.1, bd_s, rowOf_s hS (by omega), bd_s, if_eqn (by omega) (by omega), nI_1, ih k a (j + 1) (by omega) (by omega), ctF]
    by_cases e : j = w
    · rw [if_pos e, decide_eq_true e]
      congr 2
      simp
    · rw [if_neg e, decide_eq_false e]
      dsimp only
      rw [ck_s hR2.1, bd_s, Ro_same_s (h.2.2 w hw) hR2, bd_s, if_bi, nI_1, ih k (a + 1) (j + 1) (by omega) (by omega)]
      by_cases e2 : lsW X lo (stM m) w = lsW X lo (stM m) j
      · rw [if_pos (decide_eq_true e2), decide_eq_true e2]
        congr 2
        simp
        omega
      · rw [if_neg (fun z => e2 (of_decide_eq_true z)), decide_eq_false e2]
        congr 2
        simp
theorem mixedWith_s (h : RS1 T V L D t X lo m c n K) {w j : Nat} (hw : w < nw X) (hj : j ≤ nw X) : RS_mixedWith T V 0 (nI w) (nI j) = some (nI (mxN X lo (stM m) w (nw X - j) j)) := by
  have hC := h.1
  have hp := hC.1
  obtain ⟨b1, b2, b3, b4, b5, b6, b7, b8, b9, d1, d2⟩ := hp
  have hX := hC.2.2.2.2.2.2.2.1
  have n8 := hX.2.1.2.1
  have hS := hC.2.2.2.2.2.1.1
  have hR := h.2.2 w hw
  obtain ⟨l1, l2, l3⟩ := ls_len (lo := lo) (st := stM m) hX.2.1 hw
  rw [RS_mixedWith, b7, ck_s hS.1, bd_s, rowOf_s hS (by omega), bd_s]
  dsimp only
  rw [ck_s hR.1, bd_s, Ro_size_s hR, bd_s]
  unfold mxN mx
  rcases l3 with ⟨e1, e2⟩ | ⟨e1, e2⟩
  · rw [e1, e2, if_pos (show nI ([] : List Nat).length = 0 from nI_0)]
    have : ctF (fun v => !(decide (v = w)) && (Option.isSome (none : Option Nat) && decide (([] : List Nat) = lsW X lo (stM m) v))) (nw X - j) j = 0 := by
      have key : ∀ d j, ctF (fun v => !(decide (v = w)) && (Option.isSome (none : Option Nat) && decide (([] : List Nat) = lsW X lo (stM m) v))) d j = 0 := by
        intro d
        induction d with
        | zero => intro j; rfl
        | succ d ih => intro j; rw [ctF, ih]; simp
      exact key _ _
    rw [this]
    rfl
  · have := mixedWith_l h hw (nw X - j) FU 0 j (by omega) (by rw [← FU_big]; omega)
    rw [if_neg (nI_ne0 e2 (by omega)), show (0 : Int32) = nI 0 from rfl, this, Nat.zero_add]
    congr 2
    refine ctF_congr _ _ (fun i _ _ => ?_)
    rw [e1]
    simp
theorem ctF_last (f : Nat → Bool) : ∀ (d j : Nat), ctF f (d + 1) j = ctF f d j + (if f (j + d) = true then 1 else 0) := by
  intro d
  induction d with
  | zero => intro j; rw [ctF, ctF, ctF, Nat.zero_add]; rfl
  | succ d ih =>
    intro j
    rw [ctF, ih (j + 1), ctF, show j + 1 + d = j + (d + 1) by omega]
    omega
theorem lww_l (h : RS1 T V L D t X lo m c n K) {s : Nat} (hs100 : s < 100) : ∀ (d k a j : Nat), j + d = nw X → d < k →
    RS_leastWritingsWith_L15 T V 0 (nI s) k (nI a) (nI j) = some (nI (a + ctF (fun w => hs (lsW X lo (stM m) w) s) d j), V) := by
  have hC := h.1
  have hp := hC.1
  obtain ⟨b1, b2, b3, b4, b5, b6, b7, b8, b9, d1, d2⟩ := hp
  have hX := hC.2.2.2.2.2.2.2.1
  have n8 := hX.2.1.2.1
  have hS := hC.2.2.2.2.2.1.1
  intro d
  induction d with
  | zero =>
    intro k a j hj hk
    obtain ⟨k, rfl⟩ : ∃ m, k = m + 1 := ⟨k - 1, by omega⟩
    rw [RS_leastWritingsWith_L15, b9, ck_s hX.1.1, bd_s, hX.2.2.2.1, if_le (by omega) (by omega), if_pos (by omega)]
    rfl
  | succ d ih =>
    intro k a j hj hk
    obtain ⟨k, rfl⟩ : ∃ m, k = m + 1 := ⟨k - 1, by omega⟩
    have hR2 := h.2.2 j (by omega)
    rw [RS_leastWritingsWith_L15, b9, ck_s hX.1.1, bd_s, hX.2.2.2.1, if_le (by omega) (by omega), if_neg (by omega), b7, ck_s hS.1, bd_s, rowOf_s hS (by omega), bd_s]
    dsimp only
    rw [ck_s hR2.1, bd_s, Ro_has_s hR2 s (by omega), bd_s, if_bi, nI_1, nI_1, ih k a (j + 1) (by omega) (by omega), ih k (a + 1) (j + 1) (by omega) (by omega), ctF]
    show (if hs (lsW X lo (stM m) j) s = true then _ else _) = _
    by_cases e : hs (lsW X lo (stM m) j) s = true
    · rw [if_pos e, if_pos e]; congr 3; omega
    · rw [if_neg e, if_neg e]; congr 3; omega
theorem wrw_l (h : RS1 T V L D t X lo m c n K) : ∀ (d k a j : Nat), j + d = nw X → d < k →
    RS_writtenWords_L15 T V 0 k (nI a) (nI j) = some (nI (a + ctF (fun w => (lfW X lo (stM m) w).isSome) d j), V) := by
  have hC := h.1
  have hp := hC.1
  obtain ⟨b1, b2, b3, b4, b5, b6, b7, b8, b9, d1, d2⟩ := hp
  have hX := hC.2.2.2.2.2.2.2.1
  have n8 := hX.2.1.2.1
  have hS := hC.2.2.2.2.2.1.1
  intro d
  induction d with
  | zero =>
    intro k a j hj hk
    obtain ⟨k, rfl⟩ : ∃ m, k = m + 1 := ⟨k - 1, by omega⟩
    rw [RS_writtenWords_L15, b9, ck_s hX.1.1, bd_s, hX.2.2.2.1, if_le (by omega) (by omega), if_pos (by omega)]
    rfl
  | succ d ih =>
    intro k a j hj hk
    obtain ⟨k, rfl⟩ : ∃ m, k = m + 1 := ⟨k - 1, by omega⟩
    have hR2 := h.2.2 j (by omega)
    obtain ⟨l1, l2, l3⟩ := ls_len (lo := lo) (st := stM m) hX.2.1 (show j < nw X by omega)
    rw [RS_writtenWords_L15, b9, ck_s hX.1.1, bd_s, hX.2.2.2.1, if_le (by omega) (by omega), if_neg (by omega), b7, ck_s hS.1, bd_s, rowOf_s hS (by omega), bd_s]
    dsimp only
    rw [ck_s hR2.1, bd_s, Ro_size_s hR2, bd_s, nI_1, nI_1, ih k a (j + 1) (by omega) (by omega), ih k (a + 1) (j + 1) (by omega) (by omega), ctF]
    rcases l3 with ⟨e1, e2⟩ | ⟨e1, e2⟩
    · rw [e1, e2, if_pos (by decide), Option.isSome_none, if_neg (by decide)]; congr 3; omega
    · rw [e1, if_neg (nI_nle e2 (by omega)), Option.isSome_some, if_pos rfl]; congr 3; omega
theorem clw_l : ∀ (d k a j : Nat) (V : Vx), RS1 T V L D t X lo m c n K → j + d = nw X → d < k → ∃ V',
    RS_clearWords_L15 T 0 k V (nI a) (nI j) = some (nI (a + ctF (fun w => !(decide (clr X lo (stM m) w = 0))) d j), V') ∧ RS1 T V' L D t X lo m c n K ∧ FC V V' := by
  intro d
  induction d with
  | zero =>
    intro k a j V h hj hk
    have hX := h.1.2.2.2.2.2.2.2.1
    have n8 := hX.2.1.2.1
    obtain ⟨k, rfl⟩ : ∃ m, k = m + 1 := ⟨k - 1, by omega⟩
    refine ⟨V, ?_, h, FC.rf⟩
    rw [RS_clearWords_L15, h.1.1.2.2.2.2.2.2.2.2.1, ck_s hX.1.1, bd_s, hX.2.2.2.1, if_le (by omega) (by omega), if_pos (by omega)]
    rfl
  | succ d ih =>
    intro k a j V h hj hk
    have hX := h.1.2.2.2.2.2.2.2.1
    have n8 := hX.2.1.2.1
    obtain ⟨k, rfl⟩ : ∃ m, k = m + 1 := ⟨k - 1, by omega⟩
    obtain ⟨V1, p1, p2, p3⟩ := clearness_s h (show j < nw X by omega)
    have c2 : clr X lo (stM m) j ≤ 2 := by
      unfold clr
      split
      · omega
      · split
        · omega
        · split
          · omega
          · split <;> omega
    rw [RS_clearWords_L15, h.1.1.2.2.2.2.2.2.2.2.1, ck_s hX.1.1, bd_s, hX.2.2.2.1, if_le (by omega) (by omega), if_neg (by omega), p1, bd2_s, show (0 : Int32) = nI 0 from rfl, if_eqn (by omega) (by omega), nI_1, nI_1, ctF]
    by_cases e : clr X lo (stM m) j = 0
    · obtain ⟨V2, q1, q2, q3⟩ := ih k a (j + 1) V1 p2 (by omega) (by omega)
      refine ⟨V2, ?_, q2, p3.tr q3⟩
      rw [if_pos e, q1, decide_eq_true e]
      congr 3
      simp
    · obtain ⟨V2, q1, q2, q3⟩ := ih k (a + 1) (j + 1) V1 p2 (by omega) (by omega)
      refine ⟨V2, ?_, q2, p3.tr q3⟩
      rw [if_neg e, q1, decide_eq_false e]
      congr 3
      simp
      omega
theorem mxp_l (h : RS1 T V L D t X lo m c n K) : ∀ (d k a j : Nat), j + d = nw X → d < k →
    RS_mixedPairs_L15 T V 0 k (nI a) (nI j) = some (nI (a + smF (fun w => mxN X lo (stM m) w (nw X - (w + 1)) (w + 1)) d j), V) := by
  have hX := h.1.2.2.2.2.2.2.2.1
  have n8 := hX.2.1.2.1
  intro d
  induction d with
  | zero =>
    intro k a j hj hk
    obtain ⟨k, rfl⟩ : ∃ m, k = m + 1 := ⟨k - 1, by omega⟩
    rw [RS_mixedPairs_L15, h.1.1.2.2.2.2.2.2.2.2.1, ck_s hX.1.1, bd_s, hX.2.2.2.1, if_le (by omega) (by omega), if_pos (by omega)]
    rfl
  | succ d ih =>
    intro k a j hj hk
    obtain ⟨k, rfl⟩ : ∃ m, k = m + 1 := ⟨k - 1, by omega⟩
    rw [RS_mixedPairs_L15, h.1.1.2.2.2.2.2.2.2.2.1, ck_s hX.1.1, bd_s, hX.2.2.2.1, if_le (by omega) (by omega), if_neg (by omega), nI_1, mixedWith_s h (show j < nw X by omega) (show j + 1 ≤ nw X by omega), bd_s, lt, nI_add, ih k _ (j + 1) (by omega) (by omega), smF]
    congr 3
    omega
end AS
