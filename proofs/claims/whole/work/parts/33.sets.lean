/-! ===== sets of places against one place ===== -/
def skF (w : List Nat) : Nat → Nat → Nat → Nat
  | 0, _, m => m
  | d + 1, k, m => skF w d (k + 1) (if (m.testBit k && isV (ch w k)) = true then m ||| 2 ^ (k + 1) else m)
def skp (lo : Bool) (w : List Nat) (S : Nat) : Nat := if lo = true then skF w w.length 0 S else S
def stF (w u : List Nat) (S : Nat) : Nat → Nat → Nat → Nat
  | 0, _, m => m
  | d + 1, k, m => stF w u S d (k + 1) (if (S.testBit k && lies w u k) = true then m ||| 2 ^ (k + u.length) else m)
def stp (lo : Bool) (w u : List Nat) (S : Nat) : Nat := stF w u (skp lo w S) w.length 0 0
/-- from p on vowels alone are left out up to k -/
def Rch (lo : Bool) (w : List Nat) (p k : Nat) : Prop := p ≤ k ∧ k ≤ w.length ∧ ∀ i, p ≤ i → i < k → (lo && isV (ch w i)) = true
def SetRel (lo : Bool) (w : List Nat) (S : Nat) : Option Nat → Prop
  | none => S = 0
  | some p => p ≤ w.length ∧ S.testBit p = true ∧ ∀ k, S.testBit k = true → Rch lo w p k
theorem or_bit (m j k : Nat) : (m ||| 2 ^ j).testBit k = (m.testBit k || decide (j = k)) := by
  rw [Nat.testBit_or, Nat.testBit_two_pow]
theorem or_512 {m j : Nat} (hm : m < 512) (hj : j ≤ 8) : m ||| 2 ^ j < 512 := by
  have h2 : 2 ^ j < 2 ^ 9 := Nat.pow_lt_pow_right (by decide) (by omega)
  exact Nat.or_lt_two_pow (n := 9) hm h2
theorem skF_spec {lo : Bool} (hlo : lo = true) {w : List Nat} {p : Nat} (hp : p ≤ w.length) : ∀ (d k m : Nat), k + d = w.length → m.testBit p = true → (∀ j, m.testBit j = true → Rch lo w p j) → (∀ j, j ≤ k → Rch lo w p j → m.testBit j = true) → ∀ j, (skF w d k m).testBit j = true ↔ Rch lo w p j := by
  intro d
  induction d with
  | zero =>
    intro k m hk h1 h2 h3 j
    rw [skF]
    exact ⟨h2 j, fun h => h3 j (by have := h.2.1; omega) h⟩
  | succ d ih =>
    intro k m hk h1 h2 h3 j
    rw [skF]
    by_cases e : (m.testBit k && isV (ch w k)) = true
    · rw [if_pos e]
      obtain ⟨e1, e2⟩ := Bool.and_eq_true_iff.mp e
      obtain ⟨r1, r2, r3⟩ := h2 k e1
      apply ih (k + 1) _ (by omega)
      · rw [or_bit, h1]; rfl
      · intro j hj
        rw [or_bit] at hj
        rcases Bool.or_eq_true_iff.mp hj with z | z
        · exact h2 j z
        · have z := of_decide_eq_true z
          subst z
          refine ⟨by omega, by omega, fun i i1 i2 => ?_⟩
          by_cases ei : i = k
          · rw [ei, hlo, e2]; rfl
          · exact r3 i i1 (by omega)
      · intro j hj hr
        rw [or_bit]
        by_cases ej : j = k + 1
        · rw [ej, decide_eq_true rfl, Bool.or_true]
        · rw [h3 j (by omega) hr]; rfl
    · rw [if_neg e]
      apply ih (k + 1) _ (by omega) h1 h2
      intro j hj hr
      by_cases ej : j = k + 1
      · by_cases ep : p = k + 1
        · rw [ej, ← ep]; exact h1
        · exfalso
          apply e
          obtain ⟨r1, r2, r3⟩ := hr
          have v := r3 k (by omega) (by omega)
          rw [hlo, Bool.true_and] at v
          rw [v, h3 k (Nat.le_refl k) ⟨by omega, by omega, fun i i1 i2 => r3 i i1 (by omega)⟩]
          rfl
      · exact h3 j (by omega) hr
theorem skp_spec {lo : Bool} {w : List Nat} {p S : Nat} (h : SetRel lo w S (some p)) : ∀ j, (skp lo w S).testBit j = true ↔ Rch lo w p j := by
  obtain ⟨h1, h2, h3⟩ := h
  unfold skp
  by_cases e : lo = true
  · rw [if_pos e]
    apply skF_spec e h1 _ _ _ (by omega) h2 h3
    intro j hj hr
    have : p = j := by have := hr.1; omega
    rw [← this]; exact h2
  · rw [if_neg e]
    intro j
    refine ⟨h3 j, fun hr => ?_⟩
    by_cases ej : p = j
    · rw [← ej]; exact h2
    · exfalso
      have := hr.2.2 p (Nat.le_refl p) (by have := hr.1; omega)
      have e' : lo = false := by cases lo; rfl; exact absurd rfl e
      rw [e'] at this
      cases this
theorem skF_0 (w : List Nat) : ∀ d k, skF w d k 0 = 0 := by
  intro d
  induction d with
  | zero => intro k; rfl
  | succ d ih => intro k; rw [skF, Nat.zero_testBit, Bool.false_and]; exact ih (k + 1)
theorem skp_0 (lo : Bool) (w : List Nat) : skp lo w 0 = 0 := by
  unfold skp
  by_cases e : lo = true
  · rw [if_pos e, skF_0]
  · rw [if_neg e]
theorem stF_spec (w u : List Nat) (S : Nat) : ∀ (d k m j : Nat), (stF w u S d k m).testBit j = true ↔ m.testBit j = true ∨ ∃ i, k ≤ i ∧ i < k + d ∧ S.testBit i = true ∧ lies w u i = true ∧ i + u.length = j := by
  intro d
  induction d with
  | zero =>
    intro k m j
    rw [stF]
    exact ⟨Or.inl, fun h => h.elim id (fun ⟨i, h1, h2, _⟩ => by omega)⟩
  | succ d ih =>
    intro k m j
    rw [stF, ih]
    by_cases e : (S.testBit k && lies w u k) = true
    · rw [if_pos e, or_bit]
      obtain ⟨e1, e2⟩ := Bool.and_eq_true_iff.mp e
      constructor
      · rintro (h | ⟨i, h1, h2, h3, h4, h5⟩)
        · rcases Bool.or_eq_true_iff.mp h with z | z
          · exact Or.inl z
          · exact Or.inr ⟨k, Nat.le_refl k, by omega, e1, e2, of_decide_eq_true z⟩
        · exact Or.inr ⟨i, by omega, by omega, h3, h4, h5⟩
      · rintro (h | ⟨i, h1, h2, h3, h4, h5⟩)
        · exact Or.inl (by rw [h]; rfl)
        · by_cases ei : i = k
          · subst ei
            exact Or.inl (by rw [h5, decide_eq_true rfl, Bool.or_true])
          · exact Or.inr ⟨i, by omega, by omega, h3, h4, h5⟩
    · rw [if_neg e]
      constructor
      · rintro (h | ⟨i, h1, h2, h3, h4, h5⟩)
        · exact Or.inl h
        · exact Or.inr ⟨i, by omega, by omega, h3, h4, h5⟩
      · rintro (h | ⟨i, h1, h2, h3, h4, h5⟩)
        · exact Or.inl h
        · by_cases ei : i = k
          · subst ei
            exact absurd (by rw [h3, h4]; rfl) e
          · exact Or.inr ⟨i, by omega, by omega, h3, h4, h5⟩
theorem lies_iff {w u : List Nat} {k : Nat} : lies w u k = true ↔ k + u.length ≤ w.length ∧ ∀ i, i < u.length → ch w (k + i) = ch u i := by
  unfold lies
  rw [Bool.and_eq_true_iff, decide_eq_true_iff, alF_iff]
  constructor
  · rintro ⟨h1, h2⟩
    exact ⟨h1, fun i hi => beq_iff_eq.mp (h2 i (Nat.zero_le i) (by omega))⟩
  · rintro ⟨h1, h2⟩
    exact ⟨h1, fun i _ hi => beq_iff_eq.mpr (h2 i (by omega))⟩
/-- letters that lie at two places with vowels alone between the two are vowels -/
theorem lies_vowels {w u : List Nat} {a b : Nat} (hab : a < b) (ha : lies w u a = true) (hb : lies w u b = true) (hv : ∀ i, a ≤ i → i < b → isV (ch w i) = true) : ∀ j, j < u.length → isV (ch u j) = true := by
  obtain ⟨a1, a2⟩ := lies_iff.mp ha
  obtain ⟨b1, b2⟩ := lies_iff.mp hb
  intro j
  induction j using Nat.strongRecOn with
  | ind j ih =>
    intro hj
    by_cases e : a + j < b
    · rw [← a2 j hj]; exact hv _ (by omega) e
    · have e1 := ih (a + j - b) (by omega) (by omega)
      rw [← b2 (a + j - b) (by omega), show b + (a + j - b) = a + j by omega, a2 j hj] at e1
      exact e1
theorem pbF_spec (lo : Bool) (w u : List Nat) : ∀ (d k : Nat), k + d = w.length → match pbF lo w u d k with
    | none => ∀ i, k ≤ i → i < w.length → Rch lo w k i → lies w u i = false
    | some q => ∃ i, k ≤ i ∧ i < w.length ∧ Rch lo w k i ∧ lies w u i = true ∧ i + u.length = q ∧ ∀ j, k ≤ j → j < i → lies w u j = false := by
  intro d
  induction d with
  | zero =>
    intro k hk
    rw [pbF]
    intro i h1 h2
    omega
  | succ d ih =>
    intro k hk
    rw [pbF]
    by_cases e : lies w u k = true
    · rw [if_pos e]
      exact ⟨k, Nat.le_refl k, by omega, ⟨Nat.le_refl k, by omega, fun i h1 h2 => by omega⟩, e, rfl, fun j h1 h2 => by omega⟩
    · rw [if_neg e]
      have e' : lies w u k = false := by cases z : lies w u k; rfl; exact absurd z e
      by_cases v : (lo && isV (ch w k)) = true
      · rw [if_pos v]
        have := ih (k + 1) (by omega)
        cases z : pbF lo w u d (k + 1) with
        | none =>
          rw [z] at this
          intro i h1 h2 h3
          by_cases ei : i = k
          · rw [ei]; exact e'
          · exact this i (by omega) h2 ⟨by omega, h3.2.1, fun j j1 j2 => h3.2.2 j (by omega) j2⟩
        | some q =>
          rw [z] at this
          obtain ⟨i, g1, g2, g3, g4, g5, g6⟩ := this
          refine ⟨i, by omega, g2, ⟨by omega, g3.2.1, fun j j1 j2 => ?_⟩, g4, g5, fun j j1 j2 => ?_⟩
          · by_cases ej : j = k
            · rw [ej]; exact v
            · exact g3.2.2 j (by omega) j2
          · by_cases ej : j = k
            · rw [ej]; exact e'
            · exact g6 j (by omega) j2
      · rw [if_neg v]
        intro i h1 h2 h3
        by_cases ei : i = k
        · rw [ei]; exact e'
        · exact absurd (h3.2.2 k (Nat.le_refl k) (by omega)) v
theorem bit_0 {S : Nat} (h : ∀ j, S.testBit j = true → False) : S = 0 := by
  apply Nat.eq_of_testBit_eq
  intro j
  rw [Nat.zero_testBit]
  cases e : S.testBit j
  · rfl
  · exact absurd (h j e) id
theorem stp_0 (lo : Bool) (w u : List Nat) : stp lo w u 0 = 0 := by
  unfold stp
  rw [skp_0]
  apply bit_0
  intro j hj
  rcases (stF_spec w u 0 w.length 0 0 j).mp hj with h | ⟨i, h1, h2, h3, h4⟩
  · rw [Nat.zero_testBit] at h; cases h
  · rw [Nat.zero_testBit] at h3; cases h3
theorem stp_spec {lo : Bool} {w u : List Nat} {p S : Nat} (h : SetRel lo w S (some p)) : SetRel lo w (stp lo w u S) (pb lo w u p) := by
  have hb : ∀ j, (stp lo w u S).testBit j = true ↔ ∃ i, i < w.length ∧ Rch lo w p i ∧ lies w u i = true ∧ i + u.length = j := by
    intro j
    unfold stp
    rw [stF_spec]
    constructor
    · rintro (h1 | ⟨i, h1, h2, h3, h4, h5⟩)
      · rw [Nat.zero_testBit] at h1; cases h1
      · exact ⟨i, by omega, (skp_spec h i).mp h3, h4, h5⟩
    · rintro ⟨i, h1, h2, h3, h4⟩
      exact Or.inr ⟨i, Nat.zero_le i, by omega, (skp_spec h i).mpr h2, h3, h4⟩
  have hs := pbF_spec lo w u (w.length - p) p (by have := h.1; omega)
  unfold pb
  cases z : pbF lo w u (w.length - p) p with
  | none =>
    rw [z] at hs
    apply bit_0
    intro j hj
    obtain ⟨i, h1, h2, h3, h4⟩ := (hb j).mp hj
    rw [hs i h2.1 h1 h2] at h3
    cases h3
  | some q =>
    rw [z] at hs
    obtain ⟨i, g1, g2, g3, g4, g5, g6⟩ := hs
    have gl := (lies_iff.mp g4).1
    refine ⟨by omega, (hb q).mpr ⟨i, g2, g3, g4, g5⟩, fun k hk => ?_⟩
    obtain ⟨j, h1, h2, h3, h4⟩ := (hb k).mp hk
    obtain ⟨l1, l2⟩ := lies_iff.mp h3
    have hji : i ≤ j := by
      apply Nat.le_of_not_lt
      intro y
      rw [g6 j h2.1 y] at h3
      cases h3
    refine ⟨by omega, by omega, fun x x1 x2 => ?_⟩
    by_cases e : i = j
    · omega
    · have hlo : lo = true := by
        have := h2.2.2 i g1 (by omega)
        exact (Bool.and_eq_true_iff.mp this).1
      have hv : ∀ y, i ≤ y → y < j → isV (ch w y) = true := fun y y1 y2 => (Bool.and_eq_true_iff.mp (h2.2.2 y (by omega) y2)).2
      rw [hlo, Bool.true_and]
      by_cases ex : x < j
      · exact hv x (by omega) ex
      · have := lies_vowels (by omega) g4 h3 hv (x - j) (by omega)
        rw [← l2 (x - j) (by omega), show j + (x - j) = x by omega] at this
        exact this
theorem whole_spec {lo : Bool} {w : List Nat} {p S : Nat} (h : SetRel lo w S (some p)) : (skp lo w S).testBit w.length = me lo w p := by
  have h1 := skp_spec h w.length
  have h2 : me lo w p = true ↔ Rch lo w p w.length := by
    unfold me
    rw [alF_iff]
    have := h.1
    exact ⟨fun z => ⟨this, Nat.le_refl _, fun i i1 i2 => z i i1 (by omega)⟩, fun z i i1 i2 => z.2.2 i i1 (by omega)⟩
  rw [Bool.eq_iff_iff, h1, h2]
theorem SetRel.start (lo : Bool) (w : List Nat) : SetRel lo w 1 (some 0) := by
  refine ⟨Nat.zero_le _, rfl, fun k hk => ?_⟩
  have h : (2 ^ 0).testBit k = true := hk
  rw [Nat.testBit_two_pow] at h
  have := of_decide_eq_true h
  subst this
  exact ⟨Nat.le_refl _, Nat.zero_le _, fun i i1 i2 => by omega⟩
theorem SetRel.lt {lo : Bool} {w : List Nat} {S : Nat} {o : Option Nat} (h : SetRel lo w S o) (hw : w.length ≤ 8) : S < 512 := by
  apply Nat.lt_of_not_le
  intro hS
  cases o with
  | none => have : S = 0 := h; omega
  | some p =>
    obtain ⟨i, h1, h2⟩ := Nat.exists_ge_and_testBit_of_ge_two_pow (n := 9) (x := S) hS
    have := (h.2.2 i h2).2.1
    omega
theorem skp_lt {lo : Bool} {w : List Nat} {S : Nat} {o : Option Nat} (h : SetRel lo w S o) (hw : w.length ≤ 8) : skp lo w S < 512 := by
  apply Nat.lt_of_not_le
  intro hS
  cases o with
  | none =>
    have : S = 0 := h
    rw [this, skp_0] at hS
    omega
  | some p =>
    obtain ⟨i, h1, h2⟩ := Nat.exists_ge_and_testBit_of_ge_two_pow (n := 9) (x := skp lo w S) hS
    have := ((skp_spec h i).mp h2).2.1
    omega
