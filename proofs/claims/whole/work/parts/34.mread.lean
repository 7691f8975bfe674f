/-! ===== the Model: steps, writings, rows read ===== -/
section MS
variable {T : Tx} {V : Vx} {X : Lex} {lo : Bool} {m w s : Nat}
theorem or_z (x : Int32) : x ||| 0 = x := by
  apply Int32.toBitVec_inj.mp
  rw [Int32.toBitVec_or]
  exact BitVec.or_zero
theorem skips_l (h : MwAt T V X lo m) (hw : w < nw X) (hlo : lo = true) : ∀ (d n k S : Nat), k + d = (wl X w).length → d < n → S < 512 → Mo_skips_L5 T V 166 (nI w) n (nI S) (nI k) = some (nI (skF (wl X w) d k S)) := by
  have hh := h
  obtain ⟨⟨-, -, -, ⟨c1, c2, c3⟩, -⟩, hX, -, h4, -⟩ := hh
  obtain ⟨x1, x2, x3⟩ := hX.2.2.2.1 w hw
  rw [hlo, bi_t] at h4
  intro d
  induction d with
  | zero =>
    intro n k S hk hn hS
    obtain ⟨n, rfl⟩ : ∃ m, n = m + 1 := ⟨n - 1, by omega⟩
    rw [Mo_skips_L5, long1_s h hw, bd_s, if_le (by omega) (by omega), if_pos (by omega), skF]
  | succ d ih =>
    intro n k S hk hn hS
    obtain ⟨n, rfl⟩ : ∃ m, n = m + 1 := ⟨n - 1, by omega⟩
    rw [Mo_skips_L5, long1_s h hw, bd_s, if_le (by omega) (by omega), if_neg (by omega), c3, ck_s c1, bd_s, c2, gd_s (show inb 0 19 = true by decide), show (0 : Int32).toNatClampNeg = 0 from rfl, h4, if_pos rfl, bit_n (by omega) (by omega), if_bi1, isVowel_s h hw (by omega), bd_s, if_bi, lt, lt, or_z, ad_1, pow_n (k + 1) (by omega), or_n, ih n (k + 1) S (by omega) (by omega) hS, ih n (k + 1) _ (by omega) (by omega) (or_512 hS (by omega)), skF]
    cases S.testBit k <;> cases isV (ch (wl X w) k) <;> rfl
theorem skips_s (h : MwAt T V X lo m) (hw : w < nw X) {S : Nat} (hS : S < 512) : Mo_skips T V 166 (nI w) (nI S) = some (nI (skp lo (wl X w) S)) := by
  have hh := h
  obtain ⟨⟨-, -, -, ⟨c1, c2, c3⟩, -⟩, hX, -, h4, -⟩ := hh
  obtain ⟨x1, x2, x3⟩ := hX.2.2.2.1 w hw
  unfold skp
  rw [Mo_skips]
  by_cases e : lo = true
  · rw [if_pos e]
    exact skips_l h hw e _ FU 0 S (by omega) (by rw [← FU_big]; omega) hS
  · have e' : lo = false := by cases lo; rfl; exact absurd rfl e
    rw [if_neg e, ← FU_big, Mo_skips_L5, long1_s h hw, bd_s, c3, ck_s c1, bd_s, c2, gd_s (show inb 0 19 = true by decide), show (0 : Int32).toNatClampNeg = 0 from rfl, h4, e', bi_f, if_neg (show ¬ (0 : Int32) = 1 by decide)]
    by_cases e2 : nI (wl X w).length ≤ 0
    · rw [if_pos e2]
    · rw [if_neg e2]
theorem steps_l (h : MwAt T V X lo m) (hw : w < nw X) (hs : s < ns X) {R : Nat} (hR : R < 512) : ∀ (d n k t : Nat), k + d = (wl X w).length → d < n → t < 512 → Mo_steps_L14 T V 166 (nI w) (nI s) (nI R) n (nI t) (nI k) = some (nI (stF (wl X w) (su X s) R d k t)) := by
  have hX := h.2.1
  obtain ⟨x1, x2, x3⟩ := hX.2.2.2.1 w hw
  obtain ⟨y1, y2, y3, y4, y5⟩ := hX.2.2.1 s hs
  intro d
  induction d with
  | zero =>
    intro n k t hk hn ht
    obtain ⟨n, rfl⟩ : ∃ m, n = m + 1 := ⟨n - 1, by omega⟩
    rw [Mo_steps_L14, long1_s h hw, bd_s, if_le (by omega) (by omega), if_pos (by omega), stF]
  | succ d ih =>
    intro n k t hk hn ht
    obtain ⟨n, rfl⟩ : ∃ m, n = m + 1 := ⟨n - 1, by omega⟩
    rw [Mo_steps_L14, long1_s h hw, bd_s, if_le (by omega) (by omega), if_neg (by omega), bit_n (by omega) (by omega), if_bi1, mlies_s h hw hs (by omega), bd_s, if_bi, soundLong_s h hs, bd_s, lt, lt, or_z, nI_add, pow_n (k + (su X s).length) (by omega), or_n, ad_1, ih n (k + 1) t (by omega) (by omega) ht, stF]
    cases eb : R.testBit k with
    | false => rw [Bool.false_and]; rfl
    | true =>
      rw [Bool.true_and, if_pos rfl]
      cases el : lies (wl X w) (su X s) k with
      | false => rfl
      | true =>
        have := (lies_iff.mp el).1
        rw [if_pos rfl, if_pos rfl, ih n (k + 1) _ (by omega) (by omega) (or_512 ht (by omega))]
theorem steps_s (h : MwAt T V X lo m) (hw : w < nw X) (hs : s < ns X) {S : Nat} {o : Option Nat} (hS : SetRel lo (wl X w) S o) : Mo_steps T V 166 (nI w) (nI S) (nI s) = some (nI (stp lo (wl X w) (su X s) S)) := by
  obtain ⟨x1, x2, x3⟩ := h.2.1.2.2.2.1 w hw
  rw [Mo_steps, skips_s h hw (hS.lt x3), bd_s]
  exact steps_l h hw hs (skp_lt hS x3) _ FU 0 0 (by omega) (by rw [← FU_big]; omega) (by omega)
def meO (lo : Bool) (w : List Nat) (o : Option Nat) : Bool := match o with
  | none => false
  | some p => me lo w p
theorem isWhole_s (h : MwAt T V X lo m) (hw : w < nw X) {S : Nat} {o : Option Nat} (hS : SetRel lo (wl X w) S o) : Mo_isWhole T V 166 (nI w) (nI S) = some (bi (meO lo (wl X w) o)) := by
  obtain ⟨x1, x2, x3⟩ := h.2.1.2.2.2.1 w hw
  have hl := skp_lt hS x3
  rw [Mo_isWhole, skips_s h hw (hS.lt x3), bd_s, long1_s h hw, bd_s, bit_n (by omega) (by omega), if_bi1]
  have : (skp lo (wl X w) S).testBit (wl X w).length = meO lo (wl X w) o := by
    cases o with
    | none => rw [show S = 0 from hS, skp_0, Nat.zero_testBit]; rfl
    | some p => exact whole_spec hS
  rw [this]
  cases meO lo (wl X w) o <;> rfl
theorem stp_rel {u : List Nat} {S : Nat} {o : Option Nat} {l : List Nat} (hS : SetRel lo l S o) : SetRel lo l (stp lo l u S) (o.bind (pb lo l u)) := by
  cases o with
  | none => rw [show S = 0 from hS, stp_0]; rfl
  | some p => exact stp_spec hS
/-- a row of signs as the Model goes over it -/
def mwr (X : Lex) (lo : Bool) (st : Nat → Bool) (w : Nat) : Option Nat → Bool → List Nat → Bool
  | o, nf, [] => nf && meO lo (wl X w) o
  | o, nf, s :: l => if st s = true then false else if sk X s = 2 then l.isEmpty && (decide (sc X s = wc X w) && (nf && meO lo (wl X w) o)) else mwr X lo st w (o.bind (pb lo (wl X w) (su X s))) true l
theorem mwr_none (X : Lex) (lo : Bool) (st : Nat → Bool) (w : Nat) : ∀ (l : List Nat) (nf : Bool), mwr X lo st w none nf l = false := by
  intro l
  induction l with
  | nil => intro nf; rw [mwr]; exact Bool.and_false nf
  | cons s l ih =>
    intro nf
    rw [mwr]
    by_cases e : st s = true
    · rw [if_pos e]
    · rw [if_neg e]
      by_cases e2 : sk X s = 2
      · rw [if_pos e2, show meO lo (wl X w) none = false from rfl]
        simp only [Bool.and_false]
      · rw [if_neg e2]; exact ih true
theorem mwr_wr (X : Lex) (lo : Bool) (st : Nat → Bool) (w : Nat) : ∀ (l : List Nat) (nf : Bool) (p : Nat), l ≠ [] → mwr X lo st w (some p) nf l = wr X lo st w nf p l := by
  intro l
  induction l with
  | nil => intro nf p h; exact absurd rfl h
  | cons s l ih =>
    intro nf p _
    rw [mwr, wr]
    by_cases e : st s = true
    · rw [if_pos e]
      have h1 : mk X st (wc X w) s = false := by unfold mk; rw [e]; simp
      have h2 : pbS X lo st w s p = none := by unfold pbS; rw [if_pos (by rw [e]; rfl)]
      rw [h1, Bool.and_false, h2]
      rfl
    · have e' : st s = false := by cases z : st s; rfl; exact absurd z e
      rw [if_neg e]
      by_cases e2 : sk X s = 2
      · rw [if_pos e2]
        have h1 : mk X st (wc X w) s = decide (sc X s = wc X w) := by unfold mk; rw [e', e2]; simp
        have h2 : pbS X lo st w s p = none := by unfold pbS; rw [if_pos (by rw [e2]; simp)]
        rw [h1, h2]
        show (l.isEmpty && (decide (sc X s = wc X w) && (nf && me lo (wl X w) p))) = _
        cases nf <;> cases decide (sc X s = wc X w) <;> simp
      · rw [if_neg e2]
        have h1 : mk X st (wc X w) s = false := by unfold mk; rw [decide_eq_false e2]; simp
        have h2 : pbS X lo st w s p = pb lo (wl X w) (su X s) p := by unfold pbS; rw [if_neg (by rw [e', decide_eq_false e2]; simp)]
        rw [h1, h2, Bool.and_false, if_neg (by decide)]
        show mwr X lo st w (pb lo (wl X w) (su X s) p) true l = _
        cases pb lo (wl X w) (su X s) p with
        | none => exact mwr_none X lo st w l true
        | some q =>
          dsimp only
          cases l with
          | nil => rw [mwr, Bool.true_and]; rfl
          | cons t l => rw [if_neg (by simp)]; exact ih true q (by simp)
/-- signs in an int row, from a place on -/
def SgAt (V : Vx) (a fr_ : Nat) (X : Lex) (row : List Nat) : Prop := ∀ k, k < row.length → aI V a (fr_ + k) = nI (ch row k) ∧ ch row k < ns X
set_option maxHeartbeats 1000000 in
theorem isWriting_l (h : MwAt T V X lo m) (hw : w < nw X) {a fr_ : Nat} {row : List Nat} (hr : SgAt V a fr_ X row) (hfr : fr_ + row.length ≤ ln T a) (hln : ln T a < 100) (hn9 : row.length ≤ 9) : ∀ (d n k S c : Nat) (o : Option Nat) (l : List Nat), k + d = row.length → d < n → l = row.drop k → SetRel lo (wl X w) S o → c ≤ k → Mo_isWriting_L9 T V 166 (nI w) a (nI fr_) (nI row.length) n (nI S) (nI c) (nI k) = some (bi (mwr X lo (stM m) w o (decide (0 < c)) l)) := by
  have hh := h
  obtain ⟨⟨-, ⟨c1, c2, c3⟩, -⟩, hX, ⟨-, -, ht, ht2⟩, -⟩ := hh
  obtain ⟨x1, x2, x3⟩ := hX.2.2.2.1 w hw
  have n12 := hX.1
  have n8 := hX.2.1
  intro d
  induction d with
  | zero =>
    intro n k S c o l hk hn hl hS hc
    obtain ⟨n, rfl⟩ : ∃ m, n = m + 1 := ⟨n - 1, by omega⟩
    have hl2 : l = [] := by rw [hl]; exact List.drop_eq_nil_of_le (by omega)
    subst hl2
    rw [Mo_isWriting_L9, if_le (by omega) (by omega), if_pos (by omega), show (10 : Int32) = nI 10 from rfl, if_le (by omega) (by omega), if_neg (by omega), show (0 : Int32) = nI 0 from rfl, if_le (by omega) (by omega), isWhole_s h hw hS, bd_s, mwr]
    by_cases e : c ≤ 0
    · rw [if_pos e, decide_eq_false (by omega), Bool.false_and]; rfl
    · rw [if_neg e, decide_eq_true (by omega), Bool.true_and]
      cases meO lo (wl X w) o <;> rfl
  | succ d ih =>
    intro n k S c o l hk hn hl hS hc
    obtain ⟨n, rfl⟩ : ∃ m, n = m + 1 := ⟨n - 1, by omega⟩
    have hkr : k < row.length := by omega
    obtain ⟨r1, r2⟩ := hr k hkr
    obtain ⟨s, hs⟩ : ∃ s, s = ch row k := ⟨_, rfl⟩
    rw [drop_ch row k hkr, ← hs] at hl
    rw [← hs] at r1 r2
    obtain ⟨y1, y2, y3, y4, y5⟩ := hX.2.2.1 s r2
    obtain ⟨t1, t2, t3, t4⟩ := ht s r2
    obtain ⟨v1, v2, v3⟩ := ht2 w hw
    have ihs := fun o' c' S' (hS' : SetRel lo (wl X w) S' o') (hc' : c' ≤ k + 1) => ih n (k + 1) S' c' o' _ (by omega) (by omega) rfl hS' hc'
    rw [Mo_isWriting_L9, if_le (by omega) (by omega), if_neg (by omega), nI_add, gd_s (inb_n (by omega) (by omega)), lt, cl_n (by omega), r1, isStruck_s h (by omega), bd_s, if_bi, hl, mwr]
    by_cases e1 : stM m s = true
    · rw [if_pos e1, if_pos e1]; rfl
    · rw [if_neg e1, if_neg e1]
      by_cases e2 : sk X s = 2
      · have hS0 : Mo_hasSound T V 166 (nI s) = some 0 := by rw [hasSound_s h r2, decide_eq_true e2]; rfl
        have hsub : nI row.length - 1 = nI (row.length - 1) := by
          obtain ⟨r', hr'⟩ : ∃ r', row.length = r' + 1 := ⟨row.length - 1, by omega⟩
          rw [hr', nI_pred]; rfl
        rw [if_pos e2, hS0, bd_s]
        dsimp only [jn]
        rw [if_pos rfl, hsub, if_ltn (by omega) (by omega)]
        by_cases e3 : k < row.length - 1
        · rw [if_pos e3]
          have : (row.drop (k + 1)).isEmpty = false := by
            rw [drop_ch row (k + 1) (by omega)]; rfl
          rw [this, Bool.false_and]; rfl
        · rw [if_neg e3]
          have hem : row.drop (k + 1) = [] := List.drop_eq_nil_of_le (by omega)
          rw [hem, c3, ck_s c1, bd_s, ixS, ad_1, c2, gd_s (inb_n (by omega) (by omega)), bd_s, ixW, c2, gd_s (inb_n (by omega) (by omega)), cl_n (by omega), cl_n (by omega), t2, v1, if_neg (show ¬ sk X s = 1 by omega), if_eqn (by omega) (by omega)]
          by_cases e4 : sc X s = wc X w
          · rw [if_pos e4, bd_s, if_pos rfl, bd_s, bd_s, if_pos rfl, lt, show nI c + 0 = nI c from nI_add c 0, nI_1, ihs o c S hS (by omega), hem, mwr, decide_eq_true e4, Bool.true_and]
            rfl
          · rw [if_neg e4, decide_eq_false e4, Bool.false_and, Bool.and_false]; rfl
      · have hS1 : Mo_hasSound T V 166 (nI s) = some 1 := by rw [hasSound_s h r2, decide_eq_false e2]; rfl
        rw [if_neg e2, hS1, bd_s]
        dsimp only [jn]
        rw [if_neg (by decide), bd_s, if_neg (by decide), steps_s h hw r2 hS, bd_s, bd_s, bd_s, if_neg (by decide), lt, nI_1, nI_1, ihs _ (c + 1) _ (stp_rel hS) (by omega), decide_eq_true (show 0 < c + 1 by omega)]
theorem isWriting_s (h : MwAt T V X lo m) (hw : w < nw X) {a fr_ : Nat} {row : List Nat} (hr : SgAt V a fr_ X row) (hfr : fr_ + row.length ≤ ln T a) (hln : ln T a < 100) (hn9 : row.length ≤ 9) (h0 : row ≠ []) : Mo_isWriting T V 166 (nI w) a (nI fr_) (nI row.length) = some (bi (wr X lo (stM m) w false 0 row)) := by
  rw [Mo_isWriting]
  have := isWriting_l h hw hr hfr hln hn9 row.length FU 0 1 0 (some 0) row (by omega) (by rw [← FU_big]; omega) rfl (SetRel.start lo (wl X w)) (Nat.zero_le _)
  rw [show decide (0 < 0) = false by decide, mwr_wr X lo (stM m) w row false 0 h0] at this
  exact this
end MS
