/-! ===== a row of signs read as words ===== -/
/-- the signs l go on from place p of word w and make it whole; nf: a sign stands before them -/
def wr (X : Lex) (lo : Bool) (st : Nat → Bool) (w : Nat) : Bool → Nat → List Nat → Bool
  | _, _, [] => false
  | nf, p, s :: l => if (nf && mk X st (wc X w) s) = true then l.isEmpty && me lo (wl X w) p else match pbS X lo st w s p with
    | none => false
    | some q => if l.isEmpty = true then me lo (wl X w) q else wr X lo st w true q l
/-- words as bits -/
def mU (f : Nat → Bool) : Nat → Nat
  | 0 => 0
  | n + 1 => mU f n ||| (if f n = true then 2 ^ n else 0)
def isP (X : Lex) (st : Nat → Bool) (row : List Nat) : Option Nat := match row with
  | [s] => if (decide (sk X s = 0) && !(st s)) = true then fsF (ow X (sc X s) (su X s)) (nw X) 0 else none
  | _ => none
/-- as which words a row is read -/
def rd (X : Lex) (lo : Bool) (st : Nat → Bool) (row : List Nat) : Nat := match isP X st row with
  | some w => 2 ^ w
  | none => mU (fun w => wr X lo st w false 0 row) (nw X)
theorem pow_n : ∀ w, w < 16 → (1 : Int32) <<< (nI w &&& 31) = nI (2 ^ w) := by decide +kernel
theorem or_n (a b : Nat) : nI a ||| nI b = nI (a ||| b) := by
  apply Int32.toBitVec_inj.mp
  show BitVec.ofNat 32 a ||| BitVec.ofNat 32 b = BitVec.ofNat 32 (a ||| b)
  apply BitVec.eq_of_toNat_eq
  simp [Nat.or_mod_two_pow]
theorem and_n (a b : Nat) : nI a &&& nI b = nI (a &&& b) := by
  apply Int32.toBitVec_inj.mp
  show BitVec.ofNat 32 a &&& BitVec.ofNat 32 b = BitVec.ofNat 32 (a &&& b)
  apply BitVec.eq_of_toNat_eq
  simp [Nat.and_mod_two_pow]
theorem pbF_le (lo : Bool) (w u : List Nat) : ∀ (d k q : Nat), pbF lo w u d k = some q → k + u.length ≤ q ∧ q ≤ w.length := by
  intro d
  induction d with
  | zero => intro k q h; cases h
  | succ d ih =>
    intro k q h
    rw [pbF] at h
    by_cases e : lies w u k = true
    · rw [if_pos e] at h
      cases h
      unfold lies at e
      simp only [Bool.and_eq_true, decide_eq_true_eq] at e
      exact ⟨Nat.le_refl _, e.1⟩
    · rw [if_neg e] at h
      by_cases e2 : (lo && isV (ch w k)) = true
      · rw [if_pos e2] at h
        obtain ⟨h1, h2⟩ := ih (k + 1) q h
        exact ⟨by omega, h2⟩
      · rw [if_neg e2] at h
        cases h
theorem pbS_le {X : Lex} {lo : Bool} {st : Nat → Bool} {w s k q : Nat} (h : pbS X lo st w s k = some q) : k + (su X s).length ≤ q ∧ q ≤ (wl X w).length := by
  unfold pbS at h
  by_cases e : (st s || decide (sk X s = 2)) = true
  · rw [if_pos e] at h; cases h
  · rw [if_neg e] at h
    exact pbF_le _ _ _ _ _ _ h
theorem LexAt.fr {T : Tx} {V V' : Vx} {L : Nat} {X : Lex} {lo : Bool} {st : Nat → Bool} {P : Nat → Prop} (h : LexAt T V L X lo st) (hF : Fr P V V') (hP : ∀ a, L ≤ a → a < L + 63 → ¬ P a) : LexAt T V' L X lo st := by
  obtain ⟨⟨a1, a2, a3, a4, a5, a6, a7, a8, a9⟩, hw, c1, c2, c3, hs, hv⟩ := h
  have n1 := hw.1
  have n2 := hw.2.1
  refine ⟨⟨a1, by rw [hF.1]; exact a2, a3, a4, by rw [hF.1]; exact a5, a6, a7, fun s h => ?_, fun w h => ?_⟩, hw, by rw [hF.2.2.1 _ _ (hP L (by omega) (by omega))]; exact c1, by rw [hF.2.2.1 _ _ (hP L (by omega) (by omega))]; exact c2, by rw [hF.2.2.1 _ _ (hP L (by omega) (by omega))]; exact c3, fun s h => ?_, fun w h => ?_⟩
  · obtain ⟨g1, g2, g3, g4⟩ := a8 s h
    exact ⟨by rw [hF.2.1]; exact g1, g2, by rw [hF.1]; exact g3, g4.fr hF⟩
  · obtain ⟨g1, g2, g3, g4⟩ := a9 w h
    exact ⟨by rw [hF.2.1]; exact g1, g2, by rw [hF.1]; exact g3, g4.fr hF⟩
  · obtain ⟨g1, g2, g3, g4⟩ := hs s h
    have hq := hP (L + 3 + 3 * s) (by omega) (by omega)
    exact ⟨by rw [hF.2.2.1 _ _ hq]; exact g1, by rw [hF.2.2.1 _ _ hq]; exact g2, by rw [hF.2.2.1 _ _ hq]; exact g3, g4.fr hF (hP _ (by omega) (by omega)) (hP _ (by omega) (by omega))⟩
  · obtain ⟨g1, g4⟩ := hv w h
    exact ⟨by rw [hF.2.2.1 _ _ (hP (L + 39 + 3 * w) (by omega) (by omega))]; exact g1, g4.fr hF (hP _ (by omega) (by omega)) (hP _ (by omega) (by omega))⟩
/-- what the reader's row of bits gets at m -/
def fo (X : Lex) (lo : Bool) (st : Nat → Bool) (w n p : Nat) (rem : List Nat) (m : Nat) : Bool := decide (n ≤ m) && decide (m ≤ 9) && decide (m - n < rem.length) && wr X lo st w (decide (1 < n)) p (rem.take (m - n + 1))
theorem drop_ch (l : List Nat) (j : Nat) (hj : j < l.length) : l.drop j = ch l j :: l.drop (j + 1) := by
  rw [List.drop_eq_getElem_cons hj]
  unfold ch
  rw [List.getD_eq_getElem?_getD, List.getElem?_eq_getElem hj]
  rfl
theorem if_n4 {α : Type} (x y : α) : (if (0 : Int32) ≤ -4 then x else y) = y := if_neg (by decide)
theorem if_n0 {α : Type} {q : Nat} (hq : q < 2 ^ 31) (x y : α) : (if (0 : Int32) ≤ nI q then x else y) = x := if_pos (nI_pos' hq)
theorem follow_l {T : Tx} {L : Nat} {X : Lex} {lo : Bool} {st : Nat → Bool} {w a r ra rr rc fr_ : Nat} {l : List Nat} (hw : w < nw X) (hL : ∀ x, x < l.length → ch l x < ns X) (hfr : fr_ < 100) (hkr : kd T r = 11) (hlr : ln T r = 10) (hne : (∀ y, L ≤ y → y < L + 63 → y ≠ r) ∧ ra ≠ r ∧ rr ≠ r) : ∀ (d n k p : Nat) (V : Vx), n + d = 10 → d < k → 1 ≤ n → p ≤ (wl X w).length → LexAt T V L X lo st → RowAt T V ra rr rc l → fR V 300 a = some r →
    ∃ V', Re_follow_L13 T a L (nI w) ra (nI fr_) (some (L + 39 + 3 * w)) k V (nI p) (nI n) = some V' ∧ Fr (fun y => y = r) V V' ∧ (∀ f, fI V' f = fI V f) ∧ ∀ m, aI V' r m = if fo X lo st w n p (l.drop (fr_ + n - 1)) m = true then aI V r m ||| nI (2 ^ w) else aI V r m := by
  intro d
  induction d with
  | zero =>
    intro n k p V hnd hk hn hp hX hR hr
    obtain ⟨k, rfl⟩ : ∃ m, k = m + 1 := ⟨k - 1, by omega⟩
    refine ⟨V, ?_, Fr.rf, fun _ => rfl, fun m => ?_⟩
    · rw [Re_follow_L13.eq_def]
      dsimp only
      rw [show (9 : Int32) = nI 9 from rfl, if_ltn (by omega) (by omega), if_pos (by omega)]
    · rw [if_neg]
      unfold fo
      intro q
      simp only [Bool.and_eq_true, decide_eq_true_eq] at q
      omega
  | succ d ih =>
    intro n k p V hnd hk hn hp hX hR hr
    obtain ⟨k, rfl⟩ : ∃ m, k = m + 1 := ⟨k - 1, by omega⟩
    obtain ⟨w1, w2, w3⟩ := hX.2.1.2.2.2.1 w hw
    have nw8 := hX.2.1.2.1
    obtain ⟨kw1, kw2, kw3, fw1, fw4⟩ := hX.wrd hw
    have hl1 := hR.2.2.2.2.2.2.1
    have hl2 := hR.2.2.2.2.1
    obtain ⟨j, hj⟩ : ∃ j, fr_ + n = j + 1 := ⟨fr_ + n - 1, by omega⟩
    rw [Re_follow_L13.eq_def]
    dsimp only
    rw [show (9 : Int32) = nI 9 from rfl, if_ltn (by omega) (by omega), if_neg (by omega), nI_add, hj, nI_pred]
    by_cases hjl : j < l.length
    · -- a sign stands there
      have hs := hL j hjl
      obtain ⟨k1, k2, k3, f1, f2, f3, f4⟩ := hX.sgn hs
      obtain ⟨s1, s2, -⟩ := hX.2.1.2.2.1 _ hs
      have hdrop : l.drop (j + 1 - 1) = ch l j :: l.drop (j + 1) := drop_ch l j hjl
      have hdrop2 : l.drop (fr_ + (n + 1) - 1) = l.drop (j + 1) := by rw [show fr_ + (n + 1) - 1 = j + 1 by omega]
      rw [Ro_at_s hR j hjl, bd_s, signAt_s hX hs, bd_s]
      dsimp only
      -- whether it closes
      have hclose : (if nI n ≤ 1 then some (0 : Int32) else bd (ck T 7 (some (L + 39 + 3 * w))) (fun _ => gd (cko T 6 (some (L + 3 + 3 * ch l j))) (bd (Lx_marks T V L (some (L + 3 + 3 * ch l j)) (fI V 701 (L + 39 + 3 * w))) (fun r26 => (if r26 = 0 then some 0 else some 1))))) = some (bi (decide (1 < n) && mk X st (wc X w) (ch l j))) := by
        rw [show (1 : Int32) = nI 1 from rfl, if_le (by omega) (by omega)]
        by_cases c : n ≤ 1
        · rw [if_pos c]
          have : ¬ 1 < n := by omega
          simp [this, bi]
        · rw [if_neg c, ck_s kw1, bd_s, gd_s (cko_s k1), fw1, marks_s hX hs _ (by omega), bd_s, if_bi]
          have : 1 < n := by omega
          by_cases c2 : mk X st (wc X w) (ch l j) = true
          · rw [if_pos c2]; simp [this, c2, bi, nI]
          · rw [if_neg c2]; simp [this, c2, bi]
      rw [hclose, bd_s]
      have hfo : ∀ m, fo X lo st w n p (ch l j :: l.drop (j + 1)) m = (decide (n ≤ m) && decide (m ≤ 9) && decide (m - n < (l.drop (j + 1)).length + 1) && wr X lo st w (decide (1 < n)) p (ch l j :: (l.drop (j + 1)).take (m - n))) := by
        intro m
        unfold fo
        rw [List.length_cons, List.take_succ_cons]
      by_cases hc : (decide (1 < n) && mk X st (wc X w) (ch l j)) = true
      · -- it closes
        rw [hc, bi_t, if_neg (show ¬ (1 : Int32) = 0 by decide), bd_s, if_n0 (by omega), ck_s kw1, bd_s, mayEndAt_s hX hw hp, bd_s, if_bi, hr, ck_s hkr, bd_s, hlr, gd_s (inb_n (by omega) (by omega)), gd_s (inb_n (by omega) (by omega)), lt, pow_n w (by omega), cl_n (by omega), if_neg (show ¬ (1 : Int32) = 0 by decide), if_neg (show ¬ (1 : Int32) = 0 by decide)]
        have hval : ∀ m, fo X lo st w n p (ch l j :: l.drop (j + 1)) m = (decide (m = n) && me lo (wl X w) p) := by
          intro m
          rw [hfo, wr, if_pos hc]
          by_cases e : m = n
          · subst e
            have : m ≤ 9 := by omega
            simp [this]
          · by_cases e1 : n ≤ m
            · by_cases e2 : m - n < (l.drop (j + 1)).length + 1
              · have : (List.take (m - n) (l.drop (j + 1))).isEmpty = false := by
                  rw [List.isEmpty_eq_false_iff]
                  intro q
                  have := congrArg List.length q
                  rw [List.length_take] at this
                  simp only [List.length_nil] at this
                  omega
                rw [this]
                simp [e]
              · simp only [e, e2, decide_false, Bool.and_false, Bool.false_and]
            · simp only [e, e1, decide_false, Bool.false_and]
        by_cases hm : me lo (wl X w) p = true
        · rw [if_pos hm]
          refine ⟨_, rfl, Fr.wI _ _ _ _ rfl, fun _ => rfl, fun m => ?_⟩
          rw [aI_wI, hdrop, hval, hm]
          by_cases e : m = n
          · subst e
            simp
          · simp [e]
        · rw [if_neg hm]
          refine ⟨V, rfl, Fr.rf, fun _ => rfl, fun m => ?_⟩
          rw [hdrop, hval]
          simp [hm]
      · -- it doesn't
        have hc0 : (decide (1 < n) && mk X st (wc X w) (ch l j)) = false := by simpa using hc
        rw [hc0, bi_f, if_pos rfl, ck_s kw1, bd_s, ck_s k1, bd_s, placeBehind_s hX hw hs hp, bd_s, bd_s]
        cases hpb : pbS X lo st w (ch l j) p with
        | none =>
          rw [show oI none = (-4 : Int32) from rfl, if_n4]
          refine ⟨V, rfl, Fr.rf, fun _ => rfl, fun m => ?_⟩
          rw [hdrop, hfo, wr, if_neg hc, hpb]
          simp
        | some q =>
          obtain ⟨q1, q2⟩ := pbS_le hpb
          rw [show oI (some q) = nI q from rfl, if_n0 (by omega), bd_s, mayEndAt_s hX hw q2, bd_s, if_bi, hr, ck_s hkr, bd_s, hlr, gd_s (inb_n (by omega) (by omega)), gd_s (inb_n (by omega) (by omega)), lt, pow_n w (by omega), cl_n (by omega), if_pos rfl, if_pos rfl, nI_1]
          have hval : ∀ m, fo X lo st w n p (ch l j :: l.drop (j + 1)) m = if m = n then me lo (wl X w) q else fo X lo st w (n + 1) q (l.drop (j + 1)) m := by
            intro m
            rw [hfo, wr, if_neg hc, hpb]
            dsimp only
            by_cases e : m = n
            · subst e
              have : m ≤ 9 := by omega
              simp [this]
            · rw [if_neg e]
              unfold fo
              have h1 : 1 < n + 1 := by omega
              by_cases e1 : n ≤ m
              · have e1' : n + 1 ≤ m := by omega
                by_cases e2 : m - n < (l.drop (j + 1)).length + 1
                · have e2' : m - (n + 1) < (l.drop (j + 1)).length := by omega
                  have h3 : ¬ (List.take (m - n) (l.drop (j + 1))).isEmpty = true := by
                    intro q
                    have := congrArg List.length (List.isEmpty_iff.mp q)
                    rw [List.length_take] at this
                    simp only [List.length_nil] at this
                    omega
                  rw [if_neg h3, show m - (n + 1) + 1 = m - n by omega]
                  simp only [e1, e1', e2, e2', h1, decide_true, Bool.true_and]
                · have e2' : ¬ m - (n + 1) < (l.drop (j + 1)).length := by omega
                  simp only [e2, e2', decide_false, Bool.and_false, Bool.false_and]
              · have e1' : ¬ n + 1 ≤ m := by omega
                simp only [e1, e1', decide_false, Bool.false_and]
          by_cases hm : me lo (wl X w) q = true
          · rw [if_pos hm]
            have F1 : Fr (fun y => y = r) V (wI V r n (aI V r n ||| nI (2 ^ w))) := Fr.wI _ _ _ _ rfl
            obtain ⟨V', z1, z2, z3, z4⟩ := ih (n + 1) k q (wI V r n (aI V r n ||| nI (2 ^ w))) (by omega) (by omega) (by omega) q2 (hX.fr F1 hne.1) (hR.fr F1 hne.2.1 hne.2.2) hr
            refine ⟨V', z1, F1.tr z2, fun f => by rw [z3]; rfl, fun m => ?_⟩
            rw [z4, hdrop2, hdrop, hval, aI_wI]
            by_cases e : m = n
            · subst e
              have : fo X lo st w (m + 1) q (l.drop (j + 1)) m = false := by
                unfold fo
                have : ¬ m + 1 ≤ m := by omega
                simp [this]
              rw [this]
              simp [hm]
            · have e' : ¬ (r = r ∧ m = n) := fun z => e z.2
              rw [if_neg e', if_neg e]
          · rw [if_neg hm]
            obtain ⟨V', z1, z2, z3, z4⟩ := ih (n + 1) k q V (by omega) (by omega) (by omega) q2 hX hR hr
            refine ⟨V', z1, z2, z3, fun m => ?_⟩
            rw [z4, hdrop2, hdrop, hval]
            by_cases e : m = n
            · subst e
              have : fo X lo st w (m + 1) q (l.drop (j + 1)) m = false := by
                unfold fo
                have : ¬ m + 1 ≤ m := by omega
                simp [this]
              rw [this]
              simp [hm]
            · rw [if_neg e]
    · -- the row ends
      rw [Ro_at_n hR (nI j) (Or.inr (nI_le (by omega) (by omega))), bd_s, signAt_n hX (Or.inl (by decide)), bd_s]
      refine ⟨V, rfl, Fr.rf, fun _ => rfl, fun m => ?_⟩
      rw [if_neg]
      unfold fo
      rw [show j + 1 - 1 = j by omega, List.drop_eq_nil_of_le (by omega)]
      simp
theorem follow_s {T : Tx} {V : Vx} {L : Nat} {X : Lex} {lo : Bool} {st : Nat → Bool} {w a r ra rr rc fr_ : Nat} {l : List Nat} (hw : w < nw X) (hL : ∀ x, x < l.length → ch l x < ns X) (hfr : fr_ < 100) (hkr : kd T r = 11) (hlr : ln T r = 10) (hne : (∀ y, L ≤ y → y < L + 63 → y ≠ r) ∧ ra ≠ r ∧ rr ≠ r) (hX : LexAt T V L X lo st) (hR : RowAt T V ra rr rc l) (hr : fR V 300 a = some r) :
    ∃ V', Re_follow T V a L (nI w) ra (nI fr_) = some V' ∧ Fr (fun y => y = r) V V' ∧ (∀ f, fI V' f = fI V f) ∧ ∀ m, aI V' r m = if (decide (1 ≤ m) && decide (m ≤ 9) && decide (fr_ + m ≤ l.length) && wr X lo st w false 0 ((l.drop fr_).take m)) = true then aI V r m ||| nI (2 ^ w) else aI V r m := by
  obtain ⟨V', h1, h2, h3, h4⟩ := follow_l (a := a) (rc := rc) hw hL hfr hkr hlr hne 9 1 FU 0 V (by omega) (by rw [← FU_big]; omega) (by omega) (Nat.zero_le _) hX hR hr
  refine ⟨V', ?_, h2, h3, fun m => ?_⟩
  · rw [Re_follow, wordAt_s hX hw, bd_s]
    exact h1
  · rw [h4]
    have : fo X lo st w 1 0 (l.drop (fr_ + 1 - 1)) m = (decide (1 ≤ m) && decide (m ≤ 9) && decide (fr_ + m ≤ l.length) && wr X lo st w false 0 ((l.drop fr_).take m)) := by
      unfold fo
      rw [show fr_ + 1 - 1 = fr_ by omega, List.length_drop]
      by_cases e : 1 ≤ m
      · rw [show m - 1 + 1 = m by omega]
        have : (m - 1 < l.length - fr_) ↔ fr_ + m ≤ l.length := by omega
        simp only [this]
        rfl
      · simp [e]
    rw [this]
theorem look_l {T : Tx} {L : Nat} {X : Lex} {lo : Bool} {st : Nat → Bool} {a r ra rr rc fr_ : Nat} {l : List Nat} (hL : ∀ x, x < l.length → ch l x < ns X) (hfr : fr_ < 100) (hkr : kd T r = 11) (hlr : ln T r = 10) (hne : (∀ y, L ≤ y → y < L + 63 → y ≠ r) ∧ ra ≠ r ∧ rr ≠ r) : ∀ (d k w : Nat) (V : Vx), w + d = nw X → d < k → LexAt T V L X lo st → RowAt T V ra rr rc l → fR V 300 a = some r → (∀ m, 1 ≤ m → m ≤ 9 → aI V r m = nI (mU (fun w => decide (fr_ + m ≤ l.length) && wr X lo st w false 0 ((l.drop fr_).take m)) w)) →
    ∃ V', Re_look_L11 T a L ra (nI fr_) k V (nI w) = some V' ∧ Fr (fun y => y = r) V V' ∧ (∀ f, fI V' f = fI V f) ∧ ∀ m, 1 ≤ m → m ≤ 9 → aI V' r m = nI (mU (fun w => decide (fr_ + m ≤ l.length) && wr X lo st w false 0 ((l.drop fr_).take m)) (nw X)) := by
  intro d
  induction d with
  | zero =>
    intro k w V hwd hk hX hR hr hm
    obtain ⟨k, rfl⟩ : ∃ m, k = m + 1 := ⟨k - 1, by omega⟩
    have nw8 := hX.2.1.2.1
    have : w = nw X := by omega
    subst this
    refine ⟨V, ?_, Fr.rf, fun _ => rfl, hm⟩
    rw [Re_look_L11, hX.2.2.2.1, if_le (by omega) (by omega), if_pos (by omega)]
  | succ d ih =>
    intro k w V hwd hk hX hR hr hm
    obtain ⟨k, rfl⟩ : ∃ m, k = m + 1 := ⟨k - 1, by omega⟩
    have nw8 := hX.2.1.2.1
    obtain ⟨V1, p1, p2, p3, p4⟩ := follow_s (w := w) (a := a) (rc := rc) (by omega) hL hfr hkr hlr hne hX hR hr
    obtain ⟨V2, q1, q2, q3, q4⟩ := ih k (w + 1) V1 (by omega) (by omega) (hX.fr p2 hne.1) (hR.fr p2 hne.2.1 hne.2.2) (by rw [p2.1]; exact hr) (fun m m1 m2 => by
      rw [p4, mU, hm m m1 m2]
      by_cases e : (decide (fr_ + m ≤ l.length) && wr X lo st w false 0 ((l.drop fr_).take m)) = true
      · rw [if_pos e, if_pos, or_n]
        simp [m1, m2] at e ⊢
        exact e
      · rw [if_neg e, if_neg, Nat.or_zero]
        simp [m1, m2] at e ⊢
        exact e)
    refine ⟨V2, ?_, p2.tr q2, fun f => by rw [q3, p3], q4⟩
    rw [Re_look_L11, hX.2.2.2.1, if_le (by omega) (by omega), if_neg (by omega), p1, bd_s, nI_1, q1]
theorem mU_false {f : Nat → Bool} (h : ∀ w, f w = false) : ∀ n, mU f n = 0 := by
  intro n
  induction n with
  | zero => rfl
  | succ n ih => rw [mU, ih, h, if_neg (by decide)]; rfl
theorem mU_congr {f g : Nat → Bool} : ∀ n, (∀ w, w < n → f w = g w) → mU f n = mU g n := by
  intro n
  induction n with
  | zero => intro _; rfl
  | succ n ih => intro h; rw [mU, mU, ih (fun w hw => h w (by omega)), h n (by omega)]
theorem fsF_in (f : Nat → Bool) : ∀ (d j k : Nat), fsF f d j = some k → j ≤ k ∧ k < j + d ∧ f k = true := by
  intro d
  induction d with
  | zero => intro j k h; cases h
  | succ d ih =>
    intro j k h
    rw [fsF] at h
    by_cases e : f j = true
    · rw [if_pos e] at h; cases h; exact ⟨by omega, by omega, e⟩
    · rw [if_neg e] at h
      obtain ⟨h1, h2, h3⟩ := ih (j + 1) k h
      exact ⟨by omega, by omega, h3⟩
theorem look_s {T : Tx} {V : Vx} {L : Nat} {X : Lex} {lo : Bool} {st : Nat → Bool} {a r ra rr rc fr_ : Nat} {l : List Nat} (hL : ∀ x, x < l.length → ch l x < ns X) (hfr : fr_ < 100) (hkr : kd T r = 11) (hlr : ln T r = 10) (hne : (∀ y, L ≤ y → y < L + 63 → y ≠ r) ∧ ra ≠ r ∧ rr ≠ r) (hX : LexAt T V L X lo st) (hR : RowAt T V ra rr rc l) (hr : fR V 300 a = some r) :
    ∃ V', Re_look T V a L ra (nI fr_) = some V' ∧ Fr (fun y => y = r) V V' ∧ (∀ f, fI V' f = fI V f) ∧ ∀ m, 1 ≤ m → m ≤ 9 → aI V' r m = nI (if fr_ + m ≤ l.length then rd X lo st ((l.drop fr_).take m) else 0) := by
  have nw8 := hX.2.1.2.1
  have hl1 := hR.2.2.2.2.2.2.1
  have hl2 := hR.2.2.2.2.1
  obtain ⟨V0, o1, o2, o3, o4, -⟩ := fillI_s (V := V) (x := 0) (T := T) (r := r) (by omega)
  have hX0 := hX.fr o2 hne.1
  have hR0 := hR.fr o2 hne.2.1 hne.2.2
  have hr0 : fR V0 300 a = some r := by rw [o2.1]; exact hr
  obtain ⟨V1, p1, p2, p3, p4⟩ := look_l (a := a) (rc := rc) (lo := lo) (st := st) hL hfr hkr hlr hne (nw X) FU 0 V0 (by omega) (by rw [← FU_big]; omega) hX0 hR0 hr0 (fun m m1 m2 => by rw [o4 m (by omega)]; rfl)
  have hX1 := hX0.fr p2 hne.1
  have hR1 := hR0.fr p2 hne.2.1 hne.2.2
  have hr1 : fR V1 300 a = some r := by rw [p2.1]; exact hr0
  rw [nI_0] at p1
  -- what the rows give without the picture's own word
  have hval : ∀ m, 1 ≤ m → m ≤ 9 → (m ≠ 1 ∨ isP X st ((l.drop fr_).take m) = none ∨ ¬ fr_ + m ≤ l.length) → aI V1 r m = nI (if fr_ + m ≤ l.length then rd X lo st ((l.drop fr_).take m) else 0) := by
    intro m m1 m2 hq
    rw [p4 m m1 m2]
    by_cases e : fr_ + m ≤ l.length
    · rw [if_pos e]
      have hnone : isP X st ((l.drop fr_).take m) = none := by
        rcases hq with hq | hq | hq
        · have hlen : ((l.drop fr_).take m).length = m := by rw [List.length_take, List.length_drop]; omega
          match hx : (l.drop fr_).take m with
          | [] => rfl
          | [x] => rw [hx] at hlen; simp at hlen; omega
          | x :: y :: z => rfl
        · exact hq
        · exact absurd e hq
      unfold rd
      rw [hnone]
      congr 1
      exact mU_congr _ (fun w _ => by simp [e])
    · rw [if_neg e]
      congr 1
      exact mU_false (fun w => by simp [e]) _
  rw [Re_look, hr, ck_s hkr, bd_s, o1, bd_s, p1, bd_s]
  have Fa : Fr (fun y => y = r) V V1 := o2.tr p2
  have Fi : ∀ f, fI V1 f = fI V f := fun f => by rw [p3, o3]
  by_cases hjl : fr_ < l.length
  · have hs := hL fr_ hjl
    obtain ⟨k1, k2, k3, f1, f2, f3, f4⟩ := hX1.sgn hs
    obtain ⟨s1, s2, -⟩ := hX1.2.1.2.2.1 _ hs
    have hd1 : (l.drop fr_).take 1 = [ch l fr_] := by rw [drop_ch l fr_ hjl]; rfl
    rw [Ro_at_s hR1 fr_ hjl, bd_s, signAt_s hX1 hs, bd_s]
    dsimp only
    rw [ck_s k1, bd_s, f1, f2, f3, show (0 : Int32) = nI 0 from rfl, if_eqn (by omega) (by omega), nI_0, if_bi, k2, ck_s k3, bd_s, wordOf_s hX1 _ (by omega) f4, bd_s, hr1, ck_s hkr, bd_s, hlr, gd_s (show inb 1 10 = true from rfl), lt, show (1 : Int32).toNatClampNeg = 1 from rfl]
    by_cases e1 : sk X (ch l fr_) = 0
    · rw [if_pos e1]
      by_cases e2 : st (ch l fr_) = true
      · rw [if_pos e2]
        refine ⟨V1, rfl, Fa, Fi, fun m m1 m2 => hval m m1 m2 ?_⟩
        by_cases em : m = 1
        · subst em; right; left; rw [hd1]; simp [isP, e2]
        · exact Or.inl em
      · rw [if_neg e2]
        cases ho : fsF (ow X (sc X (ch l fr_)) (su X (ch l fr_))) (nw X) 0 with
        | none =>
          rw [show oI none = (-4 : Int32) from rfl, if_pos (by decide)]
          refine ⟨V1, rfl, Fa, Fi, fun m m1 m2 => hval m m1 m2 ?_⟩
          by_cases em : m = 1
          · subst em; right; left; rw [hd1]; simp [isP, e1, e2, ho]
          · exact Or.inl em
        | some w =>
          obtain ⟨-, hw, -⟩ := fsF_in _ _ _ _ ho
          rw [show oI (some w) = nI w from rfl, if_neg (n_lt (by omega)), pow_n w (by omega)]
          refine ⟨_, rfl, Fa.tr (Fr.wI _ _ _ _ rfl), Fi, fun m m1 m2 => ?_⟩
          rw [aI_wI]
          by_cases em : m = 1
          · subst em
            rw [if_pos ⟨rfl, rfl⟩, if_pos (by omega), hd1]
            congr 1
            unfold rd
            simp [isP, e1, e2, ho]
          · rw [if_neg (fun z => em z.2)]
            exact hval m m1 m2 (Or.inl em)
    · rw [if_neg e1]
      refine ⟨V1, rfl, Fa, Fi, fun m m1 m2 => hval m m1 m2 ?_⟩
      by_cases em : m = 1
      · subst em; right; left; rw [hd1]; simp [isP, e1]
      · exact Or.inl em
  · rw [Ro_at_n hR1 (nI fr_) (Or.inr (nI_le (by omega) (by omega))), bd_s, signAt_n hX1 (Or.inl (by decide)), bd_s]
    exact ⟨V1, rfl, Fa, Fi, fun m m1 m2 => hval m m1 m2 (Or.inr (Or.inr (by omega)))⟩
theorem wordsBy_s {T : Tx} {V : Vx} {a r : Nat} (hkr : kd T r = 11) (hlr : ln T r = 10) (hr : fR V 300 a = some r) {m : Nat} (hm : m ≤ 9) : Re_wordsBy T V a (nI m) = some (aI V r m) := by
  rw [Re_wordsBy, if_neg (n_lt (by omega)), show (9 : Int32) = nI 9 from rfl, if_ltn (by omega) (by omega), if_neg (by omega), hr, ck_s hkr, bd_s, hlr, gd_s (inb_n (by omega) (by omega)), cl_n (by omega)]
