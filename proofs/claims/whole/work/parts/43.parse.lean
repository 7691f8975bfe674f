/-! ===== a text read into a lexicon, by the class ===== -/
def st0 : Nat → Bool := fun _ => false
def addS (X : Lex) (a : Sg) : Lex := (X.1 ++ [a], X.2)
def addW (X : Lex) (a : Wd) : Lex := (X.1, X.2 ++ [a])
theorem getD_app {α : Type} (l : List α) (a d : α) (i : Nat) : (l ++ [a]).getD i d = if i < l.length then l.getD i d else if i = l.length then a else d := by
  rw [List.getD_eq_getElem?_getD, List.getD_eq_getElem?_getD]
  by_cases e : i < l.length
  · rw [if_pos e, List.getElem?_append_left e]
  · rw [if_neg e, List.getElem?_append_right (by omega)]
    by_cases e2 : i = l.length
    · rw [if_pos e2, e2, Nat.sub_self]; rfl
    · rw [if_neg e2, List.getElem?_eq_none (by simp; omega)]; rfl
theorem ns_addS (X : Lex) (a : Sg) : ns (addS X a) = ns X + 1 := by unfold ns addS; rw [List.length_append]; rfl
theorem nw_addS (X : Lex) (a : Sg) : nw (addS X a) = nw X := rfl
theorem ns_addW (X : Lex) (a : Wd) : ns (addW X a) = ns X := rfl
theorem nw_addW (X : Lex) (a : Wd) : nw (addW X a) = nw X + 1 := by unfold nw addW; rw [List.length_append]; rfl
theorem sk_addS (X : Lex) (a : Sg) (s : Nat) : sk (addS X a) s = if s < ns X then sk X s else if s = ns X then a.1 else 2 := by
  unfold sk addS ns
  rw [getD_app]
  by_cases e : s < X.1.length
  · rw [if_pos e, if_pos e]
  · rw [if_neg e, if_neg e]
    by_cases e2 : s = X.1.length
    · rw [if_pos e2, if_pos e2]
    · rw [if_neg e2, if_neg e2]
theorem sc_addS (X : Lex) (a : Sg) (s : Nat) : sc (addS X a) s = if s < ns X then sc X s else if s = ns X then a.2.1 else 0 := by
  unfold sc addS ns
  rw [getD_app]
  by_cases e : s < X.1.length
  · rw [if_pos e, if_pos e]
  · rw [if_neg e, if_neg e]
    by_cases e2 : s = X.1.length
    · rw [if_pos e2, if_pos e2]
    · rw [if_neg e2, if_neg e2]
theorem su_addS (X : Lex) (a : Sg) (s : Nat) : su (addS X a) s = if s < ns X then su X s else if s = ns X then a.2.2 else [] := by
  unfold su addS ns
  rw [getD_app]
  by_cases e : s < X.1.length
  · rw [if_pos e, if_pos e]
  · rw [if_neg e, if_neg e]
    by_cases e2 : s = X.1.length
    · rw [if_pos e2, if_pos e2]
    · rw [if_neg e2, if_neg e2]
theorem wc_addW (X : Lex) (a : Wd) (w : Nat) : wc (addW X a) w = if w < nw X then wc X w else if w = nw X then a.1 else 0 := by
  unfold wc addW nw
  rw [getD_app]
  by_cases e : w < X.2.length
  · rw [if_pos e, if_pos e]
  · rw [if_neg e, if_neg e]
    by_cases e2 : w = X.2.length
    · rw [if_pos e2, if_pos e2]
    · rw [if_neg e2, if_neg e2]
theorem wl_addW (X : Lex) (a : Wd) (w : Nat) : wl (addW X a) w = if w < nw X then wl X w else if w = nw X then a.2 else [] := by
  unfold wl addW nw
  rw [getD_app]
  by_cases e : w < X.2.length
  · rw [if_pos e, if_pos e]
  · rw [if_neg e, if_neg e]
    by_cases e2 : w = X.2.length
    · rw [if_pos e2, if_pos e2]
    · rw [if_neg e2, if_neg e2]
/-- a sign as it may be -/
def okS (a : Sg) : Prop := a.1 ≤ 2 ∧ a.2.1 ≤ 5 ∧ (a.1 = 2 → a.2.2 = []) ∧ (a.1 ≠ 2 → 1 ≤ a.2.2.length) ∧ a.2.2.length ≤ 4
theorem WFX.addS {X : Lex} (h : WFX X) {a : Sg} (ha : okS a) (h12 : ns X < 12) : WFX (addS X a) := by
  obtain ⟨h1, h2, h3, h4, h5⟩ := h
  refine ⟨by rw [ns_addS]; omega, h2, fun s hs => ?_, h4, h5⟩
  rw [ns_addS] at hs
  rw [sk_addS, sc_addS, su_addS]
  by_cases e : s < ns X
  · rw [if_pos e, if_pos e, if_pos e]; exact h3 s e
  · rw [if_neg e, if_neg e, if_neg e, if_pos (by omega), if_pos (by omega), if_pos (by omega)]
    exact ha
theorem WFX.addW {X : Lex} (h : WFX X) {a : Wd} (h8 : nw X < 8) (hc : a.1 ≤ 5) (hl : 1 ≤ a.2.length) (hl8 : a.2.length ≤ 8) (hn : ∀ w, w < nw X → ow X a.1 a.2 w = false) : WFX (addW X a) := by
  obtain ⟨h1, h2, h3, h4, h5⟩ := h
  have hno : ∀ w, w < nw X → wc X w = a.1 → wl X w = a.2 → False := by
    intro w hw e1 e2
    have := hn w hw
    unfold ow at this
    rw [decide_eq_true e1, decide_eq_true e2] at this
    cases this
  refine ⟨h1, by rw [nw_addW]; omega, h3, fun w hw => ?_, fun w v hw hv => ?_⟩
  · rw [nw_addW] at hw
    rw [wc_addW, wl_addW]
    by_cases e : w < nw X
    · rw [if_pos e, if_pos e]; exact h4 w e
    · rw [if_neg e, if_neg e, if_pos (by omega), if_pos (by omega)]
      exact ⟨hc, hl, hl8⟩
  · rw [nw_addW] at hw hv
    rw [wc_addW, wl_addW, wc_addW, wl_addW]
    by_cases e : w < nw X
    · rw [if_pos e, if_pos e]
      by_cases e' : v < nw X
      · rw [if_pos e', if_pos e']; exact h5 w v e e'
      · rw [if_neg e', if_neg e', if_pos (by omega), if_pos (by omega)]
        intro z1 z2
        exact absurd (hno w e z1 z2) id
    · rw [if_neg e, if_neg e, if_pos (show w = nw X by omega), if_pos (show w = nw X by omega)]
      by_cases e' : v < nw X
      · rw [if_pos e', if_pos e']
        intro z1 z2
        exact absurd (hno v e' z1.symm z2.symm) id
      · intro _ _; omega
section PA
variable {T : Tx} {L : Nat} {X : Lex} {lo : Bool}
theorem LexAt.addS {V V' : Vx} (h : LexAt T V L X lo st0) {a : Sg} (ha : okS a) (h12 : ns X < 12) {P : Nat → Prop} (hF : Fr P V V') (hP : ∀ y, P y → y = L ∨ (L + 3 + 3 * ns X ≤ y ∧ y ≤ L + 5 + 3 * ns X))
    (f2 : fI V' 202 L = nI (ns X + 1)) (f3 : fI V' 203 L = fI V 203 L) (f4 : fI V' 204 L = fI V 204 L) (g1 : fI V' 601 (L + 3 + 3 * ns X) = nI a.1) (g2 : fI V' 602 (L + 3 + 3 * ns X) = nI a.2.1) (g3 : fI V' 603 (L + 3 + 3 * ns X) = 0) (g4 : LetAt T V' (L + 4 + 3 * ns X) (L + 5 + 3 * ns X) 4 a.2.2) : LexAt T V' L (addS X a) lo st0 := by
  obtain ⟨h1, h2, h3, h4, h5, h6, h7⟩ := h
  have n8 := h2.2.1
  have hsh : LexSh T V' L := by
    obtain ⟨a1, a2, a3, a4, a5, a6, a7, a8, a9⟩ := h1
    refine ⟨a1, by rw [hF.1]; exact a2, a3, a4, by rw [hF.1]; exact a5, a6, a7, fun s hs => ?_, fun w hw => ?_⟩
    · obtain ⟨z1, z2, z3, z4⟩ := a8 s hs
      exact ⟨by rw [hF.2.1]; exact z1, z2, by rw [hF.1]; exact z3, z4.fr hF⟩
    · obtain ⟨z1, z2, z3, z4⟩ := a9 w hw
      exact ⟨by rw [hF.2.1]; exact z1, z2, by rw [hF.1]; exact z3, z4.fr hF⟩
  refine ⟨hsh, h2.addS ha h12, by rw [f2, ns_addS], by rw [f3]; exact h4, by rw [f4]; exact h5, fun s hs => ?_, fun w hw => ?_⟩
  · rw [ns_addS] at hs
    rw [sk_addS, sc_addS, su_addS]
    by_cases e : s < ns X
    · rw [if_pos e, if_pos e, if_pos e]
      have np : ∀ y, y = L + 3 + 3 * s ∨ y = L + 4 + 3 * s ∨ y = L + 5 + 3 * s → ¬ P y := fun y hy hp => by
        have := hP y hp
        omega
      obtain ⟨z1, z2, z3, z4⟩ := h6 s e
      exact ⟨by rw [hF.2.2.1 _ _ (np _ (Or.inl rfl))]; exact z1, by rw [hF.2.2.1 _ _ (np _ (Or.inl rfl))]; exact z2, by rw [hF.2.2.1 _ _ (np _ (Or.inl rfl))]; exact z3, z4.fr hF (np _ (Or.inr (Or.inl rfl))) (np _ (Or.inr (Or.inr rfl)))⟩
    · have es : s = ns X := by omega
      rw [if_neg e, if_neg e, if_neg e, if_pos es, if_pos es, if_pos es, es]
      exact ⟨g1, g2, g3, g4⟩
  · obtain ⟨z1, z2⟩ := h7 w hw
    have hw' : w < nw X := hw
    have np : ∀ y, y = L + 39 + 3 * w ∨ y = L + 40 + 3 * w ∨ y = L + 41 + 3 * w → ¬ P y := fun y hy hp => by
      have := hP y hp
      omega
    exact ⟨by rw [hF.2.2.1 _ _ (np _ (Or.inl rfl))]; exact z1, z2.fr hF (np _ (Or.inr (Or.inl rfl))) (np _ (Or.inr (Or.inr rfl)))⟩
theorem LexAt.sh' {V V' : Vx} (h1 : LexSh T V L) {P : Nat → Prop} (hF : Fr P V V') : LexSh T V' L := by
  obtain ⟨a1, a2, a3, a4, a5, a6, a7, a8, a9⟩ := h1
  refine ⟨a1, by rw [hF.1]; exact a2, a3, a4, by rw [hF.1]; exact a5, a6, a7, fun s hs => ?_, fun w hw => ?_⟩
  · obtain ⟨z1, z2, z3, z4⟩ := a8 s hs
    exact ⟨by rw [hF.2.1]; exact z1, z2, by rw [hF.1]; exact z3, z4.fr hF⟩
  · obtain ⟨z1, z2, z3, z4⟩ := a9 w hw
    exact ⟨by rw [hF.2.1]; exact z1, z2, by rw [hF.1]; exact z3, z4.fr hF⟩
theorem LexAt.addW {V V' : Vx} (h : LexAt T V L X lo st0) {a : Wd} (hX : WFX (addW X a)) (h8 : nw X < 8) {P : Nat → Prop} (hF : Fr P V V') (hP : ∀ y, P y → y = L ∨ (L + 39 + 3 * nw X ≤ y ∧ y ≤ L + 41 + 3 * nw X))
    (f2 : fI V' 202 L = fI V 202 L) (f3 : fI V' 203 L = nI (nw X + 1)) (f4 : fI V' 204 L = fI V 204 L) (g1 : fI V' 701 (L + 39 + 3 * nw X) = nI a.1) (g4 : LetAt T V' (L + 40 + 3 * nw X) (L + 41 + 3 * nw X) 8 a.2) : LexAt T V' L (addW X a) lo st0 := by
  obtain ⟨h1, h2, h3, h4, h5, h6, h7⟩ := h
  have n12 := h2.1
  refine ⟨LexAt.sh' h1 hF, hX, by rw [f2]; exact h3, by rw [f3, nw_addW], by rw [f4]; exact h5, fun s hs => ?_, fun w hw => ?_⟩
  · have hs' : s < ns X := hs
    have np : ∀ y, y = L + 3 + 3 * s ∨ y = L + 4 + 3 * s ∨ y = L + 5 + 3 * s → ¬ P y := fun y hy hp => by
      have := hP y hp
      omega
    obtain ⟨z1, z2, z3, z4⟩ := h6 s hs'
    exact ⟨by rw [hF.2.2.1 _ _ (np _ (Or.inl rfl))]; exact z1, by rw [hF.2.2.1 _ _ (np _ (Or.inl rfl))]; exact z2, by rw [hF.2.2.1 _ _ (np _ (Or.inl rfl))]; exact z3, z4.fr hF (np _ (Or.inr (Or.inl rfl))) (np _ (Or.inr (Or.inr rfl)))⟩
  · rw [nw_addW] at hw
    rw [wc_addW, wl_addW]
    by_cases e : w < nw X
    · rw [if_pos e, if_pos e]
      have np : ∀ y, y = L + 39 + 3 * w ∨ y = L + 40 + 3 * w ∨ y = L + 41 + 3 * w → ¬ P y := fun y hy hp => by
        have := hP y hp
        omega
      obtain ⟨z1, z4⟩ := h7 w e
      exact ⟨by rw [hF.2.2.1 _ _ (np _ (Or.inl rfl))]; exact z1, z4.fr hF (np _ (Or.inr (Or.inl rfl))) (np _ (Or.inr (Or.inr rfl)))⟩
    · have es : w = nw X := by omega
      rw [if_neg e, if_neg e, if_pos es, if_pos es, es]
      exact ⟨g1, g4⟩
/-- a change that leaves the lexicon as it is -/
theorem LexAt.keepS {V V' : Vx} (h : LexAt T V L X lo st0) {P : Nat → Prop} (hF : Fr P V V') (hP : ∀ y, P y → (L + 3 + 3 * ns X ≤ y ∧ y ≤ L + 38) ∨ (L + 39 + 3 * nw X ≤ y)) : LexAt T V' L X lo st0 := by
  obtain ⟨h1, h2, h3, h4, h5, h6, h7⟩ := h
  have n12 := h2.1
  have n8 := h2.2.1
  have nL : ¬ P L := fun hp => by have := hP L hp; omega
  refine ⟨LexAt.sh' h1 hF, h2, by rw [hF.2.2.1 _ _ nL]; exact h3, by rw [hF.2.2.1 _ _ nL]; exact h4, by rw [hF.2.2.1 _ _ nL]; exact h5, fun s hs => ?_, fun w hw => ?_⟩
  · have np : ∀ y, y = L + 3 + 3 * s ∨ y = L + 4 + 3 * s ∨ y = L + 5 + 3 * s → ¬ P y := fun y hy hp => by
      have := hP y hp
      omega
    obtain ⟨z1, z2, z3, z4⟩ := h6 s hs
    exact ⟨by rw [hF.2.2.1 _ _ (np _ (Or.inl rfl))]; exact z1, by rw [hF.2.2.1 _ _ (np _ (Or.inl rfl))]; exact z2, by rw [hF.2.2.1 _ _ (np _ (Or.inl rfl))]; exact z3, z4.fr hF (np _ (Or.inr (Or.inl rfl))) (np _ (Or.inr (Or.inr rfl)))⟩
  · have np : ∀ y, y = L + 39 + 3 * w ∨ y = L + 40 + 3 * w ∨ y = L + 41 + 3 * w → ¬ P y := fun y hy hp => by
      have := hP y hp
      omega
    obtain ⟨z1, z4⟩ := h7 w hw
    exact ⟨by rw [hF.2.2.1 _ _ (np _ (Or.inl rfl))]; exact z1, z4.fr hF (np _ (Or.inr (Or.inl rfl))) (np _ (Or.inr (Or.inr rfl)))⟩
theorem nextSign_s {V : Vx} {st : Nat → Bool} (h : LexAt T V L X lo st) : Lx_nextSign T V L = some (if ns X < 12 then some (L + 3 + 3 * ns X) else none) := by
  obtain ⟨⟨a1, a2, a3, a4, a5, a6, a7, a8, a9⟩, h2, h3, -⟩ := h
  have n12 := h2.1
  rw [Lx_nextSign, h3, if_neg (n_lt (by omega)), show (12 : Int32) = nI 12 from rfl, if_le (by omega) (by omega)]
  by_cases e : ns X < 12
  · obtain ⟨z1, z2, -⟩ := a8 (ns X) e
    rw [if_neg (by omega), if_pos e, a2, ck_s a3, bd_s, a4, gd_s (inb_n (by omega) (by omega)), cl_n (by omega), z1, ck_s z2, bd_s]
  · rw [if_pos (by omega), if_neg e]
theorem nextWord_s {V : Vx} {st : Nat → Bool} (h : LexAt T V L X lo st) : Lx_nextWord T V L = some (if nw X < 8 then some (L + 39 + 3 * nw X) else none) := by
  obtain ⟨⟨a1, a2, a3, a4, a5, a6, a7, a8, a9⟩, h2, h3, h4, -⟩ := h
  have n8 := h2.2.1
  rw [Lx_nextWord, h4, if_neg (n_lt (by omega)), show (8 : Int32) = nI 8 from rfl, if_le (by omega) (by omega)]
  by_cases e : nw X < 8
  · obtain ⟨z1, z2, -⟩ := a9 (nw X) e
    rw [if_neg (by omega), if_pos e, a5, ck_s a6, bd_s, a7, gd_s (inb_n (by omega) (by omega)), cl_n (by omega), z1, ck_s z2, bd_s]
  · rw [if_pos (by omega), if_neg e]
/-- a digit from 0 to a last one -/
def dg (t : List Nat) (p hi : Nat) : Option Nat := if 48 ≤ ch t p ∧ ch t p ≤ 48 + hi then some (ch t p - 48) else none
theorem ch_out {t : List Nat} {p : Nat} (h : t.length ≤ p) : ch t p = 0 := by
  unfold ch
  rw [List.getD_eq_getElem?_getD, List.getElem?_eq_none h]
  rfl
theorem digitAt_s {V : Vx} {t : List Nat} (ht : LetAt T V 1 2 200 t) {p hi : Nat} (hp : p < 1000) (hh : hi < 10) : Pa_digitAt T V 1 (nI p) (nI hi) = some (oI (dg t p hi)) := by
  have h128 := gD_lt ht.2.2.2.2.2.2.2.2 (by decide) p
  unfold dg
  by_cases e : p < t.length
  · rw [Pa_digitAt, Le_at_s ht p e, bd_s, lt]
    by_cases e1 : 48 ≤ ch t p
    · have hs : nI (ch t p) - 48 = nI (ch t p - 48) := by
        have := nI_subn 48 (ch t p - 48)
        rw [show 48 + (ch t p - 48) = ch t p by omega] at this
        exact this
      rw [hs, if_neg (n_lt (by omega)), if_ltn (by omega) (by omega)]
      by_cases e2 : ch t p ≤ 48 + hi
      · rw [if_neg (by omega), if_pos ⟨e1, e2⟩]; rfl
      · rw [if_pos (by omega), if_neg (by omega)]; rfl
    · have hlt : ∀ c, c < 48 → nI c - 48 < 0 := by decide +kernel
      rw [if_pos (hlt _ (by omega)), if_neg (by omega)]; rfl
  · have h200 := ht.2.2.2.2.2.2.1
    rw [Pa_digitAt, Le_at_n ht (nI p) (Or.inr (nI_le (by omega) (by omega))), bd_s, lt, if_pos (by decide), ch_out (by omega), if_neg (by omega)]; rfl
end PA
