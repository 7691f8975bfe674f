/-! ===== signs and words ===== -/
abbrev Sg : Type := Nat × Nat × List Nat
abbrev Wd : Type := Nat × List Nat
abbrev Lex : Type := List Sg × List Wd
def ns (X : Lex) : Nat := X.1.length
def nw (X : Lex) : Nat := X.2.length
def sk (X : Lex) (s : Nat) : Nat := (X.1.getD s (2, 0, [])).1
def sc (X : Lex) (s : Nat) : Nat := (X.1.getD s (2, 0, [])).2.1
def su (X : Lex) (s : Nat) : List Nat := (X.1.getD s (2, 0, [])).2.2
def wc (X : Lex) (w : Nat) : Nat := (X.2.getD w (0, [])).1
def wl (X : Lex) (w : Nat) : List Nat := (X.2.getD w (0, [])).2
def WFX (X : Lex) : Prop := ns X ≤ 12 ∧ nw X ≤ 8 ∧ (∀ s, s < ns X → sk X s ≤ 2 ∧ sc X s ≤ 5 ∧ (sk X s = 2 → su X s = []) ∧ (sk X s ≠ 2 → 1 ≤ (su X s).length) ∧ (su X s).length ≤ 4) ∧ (∀ w, w < nw X → wc X w ≤ 5 ∧ 1 ≤ (wl X w).length ∧ (wl X w).length ≤ 8) ∧ ∀ w v, w < nw X → v < nw X → wc X w = wc X v → wl X w = wl X v → w = v
def LexSh (T : Tx) (V : Vx) (L : Nat) : Prop :=
  kd T L = 2 ∧ fR V 200 L = some (L + 1) ∧ kd T (L + 1) = 14 ∧ ln T (L + 1) = 12 ∧ fR V 201 L = some (L + 2) ∧ kd T (L + 2) = 15 ∧ ln T (L + 2) = 8 ∧
  (∀ s, s < 12 → aR V (L + 1) s = some (L + 3 + 3 * s) ∧ kd T (L + 3 + 3 * s) = 6 ∧ fR V 600 (L + 3 + 3 * s) = some (L + 4 + 3 * s) ∧ LetSh T V (L + 4 + 3 * s) (L + 5 + 3 * s) 4) ∧
  (∀ w, w < 8 → aR V (L + 2) w = some (L + 39 + 3 * w) ∧ kd T (L + 39 + 3 * w) = 7 ∧ fR V 700 (L + 39 + 3 * w) = some (L + 40 + 3 * w) ∧ LetSh T V (L + 40 + 3 * w) (L + 41 + 3 * w) 8)
def LexAt (T : Tx) (V : Vx) (L : Nat) (X : Lex) (lo : Bool) (st : Nat → Bool) : Prop :=
  LexSh T V L ∧ WFX X ∧ fI V 202 L = nI (ns X) ∧ fI V 203 L = nI (nw X) ∧ fI V 204 L = bi lo ∧
  (∀ s, s < ns X → fI V 601 (L + 3 + 3 * s) = nI (sk X s) ∧ fI V 602 (L + 3 + 3 * s) = nI (sc X s) ∧ fI V 603 (L + 3 + 3 * s) = bi (st s) ∧ LetAt T V (L + 4 + 3 * s) (L + 5 + 3 * s) 4 (su X s)) ∧
  (∀ w, w < nw X → fI V 701 (L + 39 + 3 * w) = nI (wc X w) ∧ LetAt T V (L + 40 + 3 * w) (L + 41 + 3 * w) 8 (wl X w))
section LX
variable {T : Tx} {V : Vx} {L : Nat} {X : Lex} {lo : Bool} {st : Nat → Bool}
theorem signAt_s (h : LexAt T V L X lo st) {s : Nat} (hs : s < ns X) : Lx_signAt T V L (nI s) = some (some (L + 3 + 3 * s)) := by
  obtain ⟨⟨-, e1, k1, l1, -, -, -, hS, -⟩, hw, c1, -⟩ := h
  have hn := hw.1
  obtain ⟨g1, g2, -⟩ := hS s (by omega)
  rw [Lx_signAt, if_neg (n_lt (by omega)), c1, if_le (by omega) (by omega), if_neg (by omega), show (12 : Int32) = nI 12 from rfl, if_le (by omega) (by omega), if_neg (by omega), e1, ck_s k1, bd_s, l1, gd_s (inb_n (by omega) (by omega)), cl_n (by omega), g1, ck_s g2, bd_s]
theorem signAt_n (h : LexAt T V L X lo st) {x : Int32} (hx : x < 0 ∨ nI (ns X) ≤ x) : Lx_signAt T V L x = some none := by
  obtain ⟨-, -, c1, -⟩ := h
  rw [Lx_signAt, c1]
  by_cases h0 : x < 0
  · rw [if_pos h0]
  · rw [if_neg h0, if_pos (hx.resolve_left h0)]
theorem wordAt_s (h : LexAt T V L X lo st) {w : Nat} (hs : w < nw X) : Lx_wordAt T V L (nI w) = some (some (L + 39 + 3 * w)) := by
  obtain ⟨⟨-, -, -, -, e1, k1, l1, -, hS⟩, hw, -, c1, -⟩ := h
  have hn := hw.2.1
  obtain ⟨g1, g2, -⟩ := hS w (by omega)
  rw [Lx_wordAt, if_neg (n_lt (by omega)), c1, if_le (by omega) (by omega), if_neg (by omega), show (8 : Int32) = nI 8 from rfl, if_le (by omega) (by omega), if_neg (by omega), e1, ck_s k1, bd_s, l1, gd_s (inb_n (by omega) (by omega)), cl_n (by omega), g1, ck_s g2, bd_s]
theorem wordAt_n (h : LexAt T V L X lo st) {x : Int32} (hx : x < 0 ∨ nI (nw X) ≤ x) : Lx_wordAt T V L x = some none := by
  obtain ⟨-, -, -, c1, -⟩ := h
  rw [Lx_wordAt, c1]
  by_cases h0 : x < 0
  · rw [if_pos h0]
  · rw [if_neg h0, if_pos (hx.resolve_left h0)]
theorem LexAt.sgn (h : LexAt T V L X lo st) {s : Nat} (hs : s < ns X) : kd T (L + 3 + 3 * s) = 6 ∧ fR V 600 (L + 3 + 3 * s) = some (L + 4 + 3 * s) ∧ kd T (L + 4 + 3 * s) = 1 ∧ fI V 601 (L + 3 + 3 * s) = nI (sk X s) ∧ fI V 602 (L + 3 + 3 * s) = nI (sc X s) ∧ fI V 603 (L + 3 + 3 * s) = bi (st s) ∧ LetAt T V (L + 4 + 3 * s) (L + 5 + 3 * s) 4 (su X s) := by
  have hn := h.2.1.1
  obtain ⟨g1, g2, g3, g4⟩ := h.1.2.2.2.2.2.2.2.1 s (by omega)
  obtain ⟨f1, f2, f3, f4⟩ := h.2.2.2.2.2.1 s hs
  exact ⟨g2, g3, g4.1, f1, f2, f3, f4⟩
theorem LexAt.wrd (h : LexAt T V L X lo st) {w : Nat} (hs : w < nw X) : kd T (L + 39 + 3 * w) = 7 ∧ fR V 700 (L + 39 + 3 * w) = some (L + 40 + 3 * w) ∧ kd T (L + 40 + 3 * w) = 1 ∧ fI V 701 (L + 39 + 3 * w) = nI (wc X w) ∧ LetAt T V (L + 40 + 3 * w) (L + 41 + 3 * w) 8 (wl X w) := by
  have hn := h.2.1.2.1
  obtain ⟨g1, g2, g3, g4⟩ := h.1.2.2.2.2.2.2.2.2 w (by omega)
  obtain ⟨f1, f4⟩ := h.2.2.2.2.2.2 w hs
  exact ⟨g2, g3, g4.1, f1, f4⟩
theorem struck_l (h : LexAt T V L X lo st) : ∀ (d n c j : Nat), j + d = ns X → d < n → Lx_struckSigns_L4 T V L n (nI c) (nI j) = some (nI (c + ctF st d j)) := by
  intro d
  induction d with
  | zero =>
    intro n c j hjd hn
    obtain ⟨n, rfl⟩ : ∃ m, n = m + 1 := ⟨n - 1, by omega⟩
    have := h.2.1.1
    rw [Lx_struckSigns_L4.eq_def]
    dsimp only
    rw [h.2.2.1, if_le (by omega) (by omega), if_pos (by omega)]
    rfl
  | succ d ih =>
    intro n c j hjd hn
    obtain ⟨n, rfl⟩ : ∃ m, n = m + 1 := ⟨n - 1, by omega⟩
    have := h.2.1.1
    obtain ⟨k1, k2, k3, f1, f2, f3, f4⟩ := h.sgn (s := j) (by omega)
    rw [Lx_struckSigns_L4.eq_def]
    dsimp only
    rw [h.2.2.1, if_le (by omega) (by omega), if_neg (by omega), signAt_s h (by omega), bd_s]
    dsimp only
    rw [ck_s k1, bd_s, f3, if_bi, nI_1, nI_1, ih n c (j + 1) (by omega) (by omega), ih n (c + 1) (j + 1) (by omega) (by omega), ctF]
    by_cases e : st j = true
    · rw [if_pos e, if_pos e]; congr 2; omega
    · rw [if_neg e, if_neg e]; congr 2; omega
theorem struckSigns_s (h : LexAt T V L X lo st) : Lx_struckSigns T V L = some (nI (ctF st (ns X) 0)) := by
  have := h.2.1.1
  have hh := struck_l h (ns X) FU 0 0 (by omega) (by rw [← FU_big]; omega)
  rw [nI_0] at hh
  rw [Lx_struckSigns, hh, Nat.zero_add]
/-- an unstruck mark of a class -/
def mk (X : Lex) (st : Nat → Bool) (c s : Nat) : Bool := decide (sk X s = 2) && !(st s) && decide (sc X s = c)
theorem marks_s (h : LexAt T V L X lo st) {s : Nat} (hs : s < ns X) (c : Nat) (hc : c < 100) (a : Nat) : Lx_marks T V a (some (L + 3 + 3 * s)) (nI c) = some (bi (mk X st c s)) := by
  obtain ⟨k1, k2, k3, f1, f2, f3, f4⟩ := h.sgn hs
  obtain ⟨w1, w2, -⟩ := h.2.1.2.2.1 s hs
  rw [Lx_marks]
  rw [f1, f2, f3, show (2 : Int32) = nI 2 from rfl, if_eqn (by omega) (by omega), if_bi, if_eqn (by omega) (by omega)]
  unfold mk bi
  by_cases e1 : sk X s = 2 <;> by_cases e2 : st s = true <;> by_cases e3 : sc X s = c <;> simp [e1, e2, e3]
theorem cko_s {a c : Nat} (h : kd T a = c) : cko T c (some a) = true := by simp [cko, h]
/-- the first number with a property -/
def fsF (f : Nat → Bool) : Nat → Nat → Option Nat
  | 0, _ => none
  | d + 1, j => if f j = true then some j else fsF f d (j + 1)
theorem lowestMark_l (h : LexAt T V L X lo st) (c : Nat) (hc : c < 100) : ∀ (d n j : Nat), j + d = ns X → d < n → Lx_lowestMark_L2 T V L (nI c) n (nI j) = some (oI (fsF (mk X st c) d j)) := by
  intro d
  induction d with
  | zero =>
    intro n j hjd hn
    obtain ⟨n, rfl⟩ : ∃ m, n = m + 1 := ⟨n - 1, by omega⟩
    have := h.2.1.1
    rw [Lx_lowestMark_L2, h.2.2.1, if_le (by omega) (by omega), if_pos (by omega)]
    rfl
  | succ d ih =>
    intro n j hjd hn
    obtain ⟨n, rfl⟩ : ∃ m, n = m + 1 := ⟨n - 1, by omega⟩
    have := h.2.1.1
    obtain ⟨k1, k2, k3, f1, f2, f3, f4⟩ := h.sgn (s := j) (by omega)
    rw [Lx_lowestMark_L2, h.2.2.1, if_le (by omega) (by omega), if_neg (by omega), signAt_s h (by omega), bd_s, gd_s (cko_s k1), marks_s h (by omega) c hc, bd_s, if_bi, nI_1, ih n (j + 1) (by omega) (by omega), fsF]
    by_cases e : mk X st c j = true
    · rw [if_pos e, if_pos e]; rfl
    · rw [if_neg e, if_neg e]
theorem lowestMark_s (h : LexAt T V L X lo st) (c : Nat) (hc : c < 100) : Lx_lowestMark T V L (nI c) = some (oI (fsF (mk X st c) (ns X) 0)) := by
  have := h.2.1.1
  have hh := lowestMark_l h c hc (ns X) FU 0 (by omega) (by rw [← FU_big]; omega)
  rw [nI_0] at hh
  rw [Lx_lowestMark, hh]
theorem marksOf_l (h : LexAt T V L X lo st) (c : Nat) (hc : c < 100) : ∀ (d n i j : Nat), j + d = ns X → d < n → Lx_marksOf_L4 T V L (nI c) n (nI i) (nI j) = some (nI (i + ctF (mk X st c) d j)) := by
  intro d
  induction d with
  | zero =>
    intro n i j hjd hn
    obtain ⟨n, rfl⟩ : ∃ m, n = m + 1 := ⟨n - 1, by omega⟩
    have := h.2.1.1
    rw [Lx_marksOf_L4, h.2.2.1, if_le (by omega) (by omega), if_pos (by omega)]
    rfl
  | succ d ih =>
    intro n i j hjd hn
    obtain ⟨n, rfl⟩ : ∃ m, n = m + 1 := ⟨n - 1, by omega⟩
    have := h.2.1.1
    obtain ⟨k1, k2, k3, f1, f2, f3, f4⟩ := h.sgn (s := j) (by omega)
    rw [Lx_marksOf_L4, h.2.2.1, if_le (by omega) (by omega), if_neg (by omega), signAt_s h (by omega), bd_s, gd_s (cko_s k1), marks_s h (by omega) c hc, bd_s, if_bi, nI_1, nI_1, ih n i (j + 1) (by omega) (by omega), ih n (i + 1) (j + 1) (by omega) (by omega), ctF]
    by_cases e : mk X st c j = true
    · rw [if_pos e, if_pos e]; congr 2; omega
    · rw [if_neg e, if_neg e]; congr 2; omega
theorem marksOf_s (h : LexAt T V L X lo st) (c : Nat) (hc : c < 100) : Lx_marksOf T V L (nI c) = some (nI (ctF (mk X st c) (ns X) 0)) := by
  have := h.2.1.1
  have hh := marksOf_l h c hc (ns X) FU 0 0 (by omega) (by rw [← FU_big]; omega)
  rw [nI_0] at hh
  rw [Lx_marksOf, hh, Nat.zero_add]
theorem lies_eq {w u : List Nat} (h : w.length = u.length) : lies w u 0 = true ↔ w = u := by
  unfold lies
  rw [Bool.and_eq_true, alF_iff]
  constructor
  · rintro ⟨-, h2⟩
    apply List.ext_getElem? 
    intro i
    by_cases hi : i < u.length
    · have h3 := h2 i (by omega) (by omega)
      have h3 : ch w (0 + i) = ch u i := by simpa using h3
      rw [Nat.zero_add] at h3
      unfold ch at h3
      rw [List.getD_eq_getElem?_getD, List.getD_eq_getElem?_getD, List.getElem?_eq_getElem hi, List.getElem?_eq_getElem (by omega : i < w.length)] at h3
      rw [List.getElem?_eq_getElem hi, List.getElem?_eq_getElem (by omega : i < w.length)]
      exact congrArg some h3
    · rw [List.getElem?_eq_none (by omega), List.getElem?_eq_none (by omega)]
  · rintro rfl
    exact ⟨by simp, fun i _ _ => by simp⟩
/-- the word of a class with just these letters -/
def ow (X : Lex) (c : Nat) (u : List Nat) (w : Nat) : Bool := decide (wc X w = c) && decide (wl X w = u)
theorem wordOf_l (h : LexAt T V L X lo st) (c : Nat) (hc : c < 100) {a r cap : Nat} {u : List Nat} (hu : LetAt T V a r cap u) : ∀ (d n j : Nat), j + d = nw X → d < n → Lx_wordOf_L2 T V L (nI c) a n (nI j) = some (oI (fsF (ow X c u) d j)) := by
  intro d
  induction d with
  | zero =>
    intro n j hjd hn
    obtain ⟨n, rfl⟩ : ∃ m, n = m + 1 := ⟨n - 1, by omega⟩
    have := h.2.1.2.1
    rw [Lx_wordOf_L2.eq_def]
    dsimp only
    rw [h.2.2.2.1, if_le (by omega) (by omega), if_pos (by omega)]
    rfl
  | succ d ih =>
    intro n j hjd hn
    obtain ⟨n, rfl⟩ : ∃ m, n = m + 1 := ⟨n - 1, by omega⟩
    have := h.2.1.2.1
    obtain ⟨k1, k2, k3, f1, f4⟩ := h.wrd (w := j) (by omega)
    obtain ⟨w1, w2, w3⟩ := h.2.1.2.2.2.1 j (by omega)
    have hu1 := hu.2.2.2.2.2.2.1
    have hu2 := hu.2.2.2.2.1
    rw [Lx_wordOf_L2.eq_def]
    dsimp only
    rw [h.2.2.2.1, if_le (by omega) (by omega), if_neg (by omega), wordAt_s h (by omega), bd_s]
    dsimp only
    rw [ck_s k1, bd_s, f1, if_eqn (by omega) (by omega), k2, ck_s k3, bd_s, Le_size_s f4, bd_s, Le_size_s hu, bd_s, if_eqn (by omega) (by omega), bd_s, ← nI_0, Le_hasAt_s f4 hu 0 (by omega), bd_s, nI_0, if_bi, nI_1, ih n (j + 1) (by omega) (by omega), fsF]
    unfold ow
    by_cases e1 : wc X j = c
    · rw [if_pos e1]
      by_cases e2 : (wl X j).length = u.length
      · rw [if_pos e2]
        by_cases e3 : lies (wl X j) u 0 = true
        · have := (lies_eq e2).mp e3
          rw [if_pos e3, if_pos (by simp [e1, this])]
          rfl
        · have : ¬ wl X j = u := fun q => e3 ((lies_eq e2).mpr q)
          rw [if_neg e3, if_neg (by simp [this])]
      · have : ¬ wl X j = u := fun q => e2 (by rw [q])
        rw [if_neg e2, if_neg (by simp [this])]
    · rw [if_neg e1, if_neg (by simp [e1])]
theorem wordOf_s (h : LexAt T V L X lo st) (c : Nat) (hc : c < 100) {a r cap : Nat} {u : List Nat} (hu : LetAt T V a r cap u) : Lx_wordOf T V L (nI c) a = some (oI (fsF (ow X c u) (nw X) 0)) := by
  have := h.2.1.2.1
  have hh := wordOf_l h c hc hu (nw X) FU 0 (by omega) (by rw [← FU_big]; omega)
  rw [nI_0] at hh
  rw [Lx_wordOf, hh]
/-- a sign's sound behind a place of a word -/
def pbS (X : Lex) (lo : Bool) (st : Nat → Bool) (w s k : Nat) : Option Nat := if (st s || decide (sk X s = 2)) = true then none else pb lo (wl X w) (su X s) k
theorem placeBehind_l (h : LexAt T V L X lo st) {w s : Nat} (hw : w < nw X) (hs : s < ns X) : ∀ (d n k : Nat), k + d = (wl X w).length → d < n → Lx_placeBehind_L25 T V L (L + 39 + 3 * w) (L + 3 + 3 * s) n (nI k) = some (oI (pbF lo (wl X w) (su X s) d k)) := by
  obtain ⟨k1, k2, k3, f1, f4⟩ := h.wrd hw
  obtain ⟨m1, m2, m3, g1, g2, g3, g4⟩ := h.sgn hs
  obtain ⟨w1, w2, w3⟩ := h.2.1.2.2.2.1 w hw
  obtain ⟨s1, s2, s3, s4, s5⟩ := h.2.1.2.2.1 s hs
  have hlo := h.2.2.2.2.1
  intro d
  induction d with
  | zero =>
    intro n k hkd hn
    obtain ⟨n, rfl⟩ : ∃ m, n = m + 1 := ⟨n - 1, by omega⟩
    rw [Lx_placeBehind_L25, k2, ck_s k3, bd_s, Le_size_s f4, bd_s, if_le (by omega) (by omega), if_pos (by omega)]
    rfl
  | succ d ih =>
    intro n k hkd hn
    obtain ⟨n, rfl⟩ : ∃ m, n = m + 1 := ⟨n - 1, by omega⟩
    rw [Lx_placeBehind_L25, k2, ck_s k3, bd_s, Le_size_s f4, bd_s, if_le (by omega) (by omega), if_neg (by omega), bd_s, m2, ck_s m3, bd_s, Le_hasAt_s f4 g4 k (by omega), bd_s, if_bi, hlo, if_bi, bd_s, bd_s, Le_isVowelAt_s f4 k (by omega), bd_s, if_bi, nI_1, ih n (k + 1) (by omega) (by omega), Le_size_s g4, bd_s, nI_add, pbF]
    by_cases e1 : lies (wl X w) (su X s) k = true
    · rw [if_pos e1, if_pos e1]; rfl
    · rw [if_neg e1, if_neg e1]
      by_cases e2 : lo = true
      · rw [if_pos e2]
        by_cases e3 : isV (ch (wl X w) k) = true
        · rw [if_pos e3, if_pos (by simp [e2, e3])]
        · rw [if_neg e3, if_neg (by simp [e3])]; rfl
      · rw [if_neg e2, if_neg (by simp [e2])]; rfl
theorem placeBehind_s (h : LexAt T V L X lo st) {w s : Nat} (hw : w < nw X) (hs : s < ns X) {k : Nat} (hk : k ≤ (wl X w).length) : Lx_placeBehind T V L (L + 39 + 3 * w) (nI k) (L + 3 + 3 * s) = some (oI (pbS X lo st w s k)) := by
  obtain ⟨m1, m2, m3, g1, g2, g3, g4⟩ := h.sgn hs
  obtain ⟨w1, w2, w3⟩ := h.2.1.2.2.2.1 w hw
  obtain ⟨s1, s2, -⟩ := h.2.1.2.2.1 s hs
  rw [Lx_placeBehind, if_neg (n_lt (by omega)), g3, if_bi, g1, show (2 : Int32) = nI 2 from rfl, if_eqn (by omega) (by omega), placeBehind_l h hw hs ((wl X w).length - k) FU k (by omega) (by rw [← FU_big]; omega)]
  unfold pbS pb
  by_cases e1 : st s = true
  · rw [if_pos e1, if_pos (by simp [e1])]; rfl
  · by_cases e2 : sk X s = 2
    · rw [if_neg e1, if_pos e2, if_pos (by simp [e2])]; rfl
    · rw [if_neg e1, if_neg e2, if_neg (by simp [e1, e2])]
theorem mayEndAt_l (h : LexAt T V L X lo st) {w : Nat} (hw : w < nw X) : ∀ (d n k : Nat), k + d = (wl X w).length → d < n → Lx_mayEndAt_L2 T V L (L + 39 + 3 * w) n (nI k) = some (bi (alF (fun i => lo && isV (ch (wl X w) i)) d k)) := by
  obtain ⟨k1, k2, k3, f1, f4⟩ := h.wrd hw
  obtain ⟨w1, w2, w3⟩ := h.2.1.2.2.2.1 w hw
  have hlo := h.2.2.2.2.1
  intro d
  induction d with
  | zero =>
    intro n k hkd hn
    obtain ⟨n, rfl⟩ : ∃ m, n = m + 1 := ⟨n - 1, by omega⟩
    rw [Lx_mayEndAt_L2, k2, ck_s k3, bd_s, Le_size_s f4, bd_s, if_le (by omega) (by omega), if_pos (by omega)]
    rfl
  | succ d ih =>
    intro n k hkd hn
    obtain ⟨n, rfl⟩ : ∃ m, n = m + 1 := ⟨n - 1, by omega⟩
    rw [Lx_mayEndAt_L2, k2, ck_s k3, bd_s, Le_size_s f4, bd_s, if_le (by omega) (by omega), if_neg (by omega), hlo, if_bi, bd_s, Le_isVowelAt_s f4 k (by omega), bd_s, if_bi, nI_1, ih n (k + 1) (by omega) (by omega), alF]
    by_cases e2 : lo = true
    · rw [if_pos e2]
      by_cases e3 : isV (ch (wl X w) k) = true
      · rw [if_pos e3]; simp [e2, e3]
      · rw [if_neg e3]; simp [e3, bi]
    · rw [if_neg e2]; simp [e2, bi]
theorem mayEndAt_s (h : LexAt T V L X lo st) {w : Nat} (hw : w < nw X) {k : Nat} (hk : k ≤ (wl X w).length) : Lx_mayEndAt T V L (L + 39 + 3 * w) (nI k) = some (bi (me lo (wl X w) k)) := by
  obtain ⟨w1, w2, w3⟩ := h.2.1.2.2.2.1 w hw
  rw [Lx_mayEndAt, mayEndAt_l h hw ((wl X w).length - k) FU k (by omega) (by rw [← FU_big]; omega)]
  rfl
end LX
