/-! ===== the least writing of a word and how many it has, over the places of a word ===== -/
theorem fsF_eq (f : Nat → Bool) : ∀ (d j k : Nat), j ≤ k → k < j + d → f k = true → (∀ i, j ≤ i → i < k → f i = false) → fsF f d j = some k := by
  intro d
  induction d with
  | zero => intro j k h1 h2; omega
  | succ d ih =>
    intro j k h1 h2 h3 h4
    rw [fsF]
    by_cases e : j = k
    · subst e
      rw [h3]
      rfl
    · rw [h4 j (Nat.le_refl j) (by omega)]
      exact ih (j + 1) k (by omega) (by omega) h3 (fun i q1 q2 => h4 i (by omega) q2)
theorem fsF_none (f : Nat → Bool) : ∀ (d j : Nat), (∀ i, j ≤ i → i < j + d → f i = false) → fsF f d j = none := by
  intro d
  induction d with
  | zero => intro j h; rfl
  | succ d ih =>
    intro j h
    rw [fsF, h j (Nat.le_refl j) (by omega)]
    exact ih (j + 1) (fun i q1 q2 => h i (by omega) (by omega))
theorem fsF_first (f : Nat → Bool) : ∀ (d j k : Nat), fsF f d j = some k → ∀ i, j ≤ i → i < k → f i = false := by
  intro d
  induction d with
  | zero => intro j k h; cases h
  | succ d ih =>
    intro j k h i h1 h2
    rw [fsF] at h
    cases e : f j with
    | true =>
      rw [e] at h
      have : j = k := by
        have := h
        simp at this
        exact this
      omega
    | false =>
      rw [e] at h
      by_cases ei : i = j
      · rw [ei]; exact e
      · exact ih (j + 1) k h i (by omega) h2
theorem fsF_no (f : Nat → Bool) : ∀ (d j : Nat), fsF f d j = none → ∀ i, j ≤ i → i < j + d → f i = false := by
  intro d
  induction d with
  | zero => intro j h i; omega
  | succ d ih =>
    intro j h i h1 h2
    rw [fsF] at h
    cases e : f j with
    | true =>
      rw [e] at h
      simp at h
    | false =>
      rw [e] at h
      by_cases ei : i = j
      · rw [ei]; exact e
      · exact ih (j + 1) h i (by omega) (by omega)
/-- one sign weighed: the most letters told -/
def bS (m : Nat → Option Nat) (o : Option Nat) (u : Nat) (a : Option Nat) : Option Nat := match o with
  | none => a
  | some q => match m q with
    | none => a
    | some t => match a with
      | none => some (t + u)
      | some b => if b < t + u then some (t + u) else some b
def bs (nx : Nat → Nat → Option Nat) (ul : Nat → Nat) (m : Nat → Option Nat) (p : Nat) : Nat → Nat → Option Nat → Option Nat
  | 0, _, a => a
  | d + 1, s, a => bs nx ul m p d (s + 1) (bS m (nx s p) (ul s) a)
/-- the most letters told from a place on by just n signs -/
def mst (nx : Nat → Nat → Option Nat) (ul : Nat → Nat) (fin : Nat → Bool) (N : Nat) : Nat → Nat → Option Nat
  | 0, p => if fin p = true then some 0 else none
  | n + 1, p => bs nx ul (mst nx ul fin N n) p N 0 none
/-- a sign by which v letters are told from p on with n signs behind it -/
def cdB (nx : Nat → Nat → Option Nat) (ul : Nat → Nat) (m : Nat → Option Nat) (p v s : Nat) : Bool := match nx s p with
  | none => false
  | some q => match m q with
    | none => false
    | some t => decide (t + ul s = v)
theorem cdB_iff {nx : Nat → Nat → Option Nat} {ul : Nat → Nat} {m : Nat → Option Nat} {p v s : Nat} : cdB nx ul m p v s = true ↔ ∃ q t, nx s p = some q ∧ m q = some t ∧ t + ul s = v := by
  unfold cdB
  cases e : nx s p with
  | none => simp
  | some q =>
    dsimp only
    cases e2 : m q with
    | none =>
      simp only [Bool.false_eq_true, Option.some.injEq, false_iff]
      rintro ⟨q', t, h1, h2, _⟩
      rw [← h1, e2] at h2
      cases h2
    | some t =>
      simp only [Option.some.injEq, decide_eq_true_eq]
      constructor
      · intro h
        exact ⟨q, t, rfl, e2, h⟩
      · rintro ⟨q', t', h1, h2, h3⟩
        rw [← h1, e2] at h2
        cases h2
        exact h3
theorem bs_in (nx : Nat → Nat → Option Nat) (ul : Nat → Nat) (m : Nat → Option Nat) (p : Nat) : ∀ (d s : Nat) (a : Option Nat) (v : Nat), bs nx ul m p d s a = some v → a = some v ∨ ∃ s', s ≤ s' ∧ s' < s + d ∧ cdB nx ul m p v s' = true := by
  intro d
  induction d with
  | zero => intro s a v h; exact Or.inl h
  | succ d ih =>
    intro s a v h
    rw [bs] at h
    rcases ih _ _ _ h with e | ⟨s', h1, h2, h3⟩
    · unfold bS at e
      cases e1 : nx s p with
      | none => rw [e1] at e; exact Or.inl e
      | some q =>
        rw [e1] at e
        dsimp only at e
        cases e2 : m q with
        | none => rw [e2] at e; exact Or.inl e
        | some t =>
          rw [e2] at e
          dsimp only at e
          cases a with
          | none =>
            dsimp only at e
            cases e
            exact Or.inr ⟨s, Nat.le_refl s, by omega, cdB_iff.mpr ⟨q, t, e1, e2, rfl⟩⟩
          | some b =>
            dsimp only at e
            by_cases e3 : b < t + ul s
            · rw [if_pos e3] at e
              cases e
              exact Or.inr ⟨s, Nat.le_refl s, by omega, cdB_iff.mpr ⟨q, t, e1, e2, rfl⟩⟩
            · rw [if_neg e3] at e
              exact Or.inl e
    · exact Or.inr ⟨s', by omega, by omega, h3⟩
theorem bS_ge (m : Nat → Option Nat) (o : Option Nat) (u b : Nat) : ∃ v, bS m o u (some b) = some v ∧ b ≤ v := by
  unfold bS
  cases o with
  | none => exact ⟨b, rfl, Nat.le_refl b⟩
  | some q =>
    dsimp only
    cases m q with
    | none => exact ⟨b, rfl, Nat.le_refl b⟩
    | some t =>
      dsimp only
      by_cases e3 : b < t + u
      · rw [if_pos e3]; exact ⟨t + u, rfl, by omega⟩
      · rw [if_neg e3]; exact ⟨b, rfl, Nat.le_refl b⟩
theorem bS_ge2 (m : Nat → Option Nat) (q t u : Nat) (a : Option Nat) (h : m q = some t) : ∃ v, bS m (some q) u a = some v ∧ t + u ≤ v := by
  unfold bS
  dsimp only
  rw [h]
  cases a with
  | none => exact ⟨t + u, rfl, Nat.le_refl _⟩
  | some b =>
    dsimp only
    by_cases e3 : b < t + u
    · rw [if_pos e3]; exact ⟨t + u, rfl, by omega⟩
    · rw [if_neg e3]; exact ⟨b, rfl, by omega⟩
theorem bs_a (nx : Nat → Nat → Option Nat) (ul : Nat → Nat) (m : Nat → Option Nat) (p : Nat) : ∀ (d s b : Nat), ∃ v, bs nx ul m p d s (some b) = some v ∧ b ≤ v := by
  intro d
  induction d with
  | zero => intro s b; exact ⟨b, rfl, Nat.le_refl b⟩
  | succ d ih =>
    intro s b
    rw [bs]
    obtain ⟨v, h1, h2⟩ := bS_ge m (nx s p) (ul s) b
    rw [h1]
    obtain ⟨v', h3, h4⟩ := ih (s + 1) v
    exact ⟨v', h3, by omega⟩
theorem bs_ge (nx : Nat → Nat → Option Nat) (ul : Nat → Nat) (m : Nat → Option Nat) (p : Nat) : ∀ (d s : Nat) (a : Option Nat) (s' v : Nat), s ≤ s' → s' < s + d → cdB nx ul m p v s' = true → ∃ v', bs nx ul m p d s a = some v' ∧ v ≤ v' := by
  intro d
  induction d with
  | zero => intro s a s' v h1 h2; omega
  | succ d ih =>
    intro s a s' v h1 h2 h3
    rw [bs]
    by_cases e : s' = s
    · subst e
      obtain ⟨q, t, g1, g2, g3⟩ := cdB_iff.mp h3
      rw [g1]
      obtain ⟨v1, k1, k2⟩ := bS_ge2 m q t (ul s') a g2
      rw [k1]
      obtain ⟨v2, k3, k4⟩ := bs_a nx ul m p d (s' + 1) v1
      exact ⟨v2, k3, by omega⟩
    · exact ih (s + 1) _ s' v (by omega) (by omega) h3
section MST
variable {nx : Nat → Nat → Option Nat} {ul : Nat → Nat} {fin : Nat → Bool} {N K : Nat}
theorem mst_in {n p v : Nat} (h : mst nx ul fin N (n + 1) p = some v) : ∃ s, s < N ∧ cdB nx ul (mst nx ul fin N n) p v s = true := by
  rw [mst] at h
  rcases bs_in _ _ _ _ _ _ _ _ h with e | ⟨s, h1, h2, h3⟩
  · cases e
  · exact ⟨s, by omega, h3⟩
theorem mst_ge {n p v s : Nat} (hs : s < N) (h : cdB nx ul (mst nx ul fin N n) p v s = true) : ∃ v', mst nx ul fin N (n + 1) p = some v' ∧ v ≤ v' := by
  rw [mst]
  exact bs_ge _ _ _ _ _ _ _ s v (Nat.zero_le s) (by omega) h
theorem mst_len (hnx : ∀ s p q, nx s p = some q → p < q ∧ q ≤ K) : ∀ (n p v : Nat), p ≤ K → mst nx ul fin N n p = some v → n + p ≤ K := by
  intro n
  induction n with
  | zero => intro p v h _; omega
  | succ n ih =>
    intro p v h h2
    obtain ⟨s, hs, h3⟩ := mst_in h2
    obtain ⟨q, t, g1, g2, g3⟩ := cdB_iff.mp h3
    obtain ⟨k1, k2⟩ := hnx s p q g1
    have := ih q t k2 g2
    omega
theorem mst_first {n p v : Nat} (h : mst nx ul fin N (n + 1) p = some v) : ∃ s q t, fsF (cdB nx ul (mst nx ul fin N n) p v) N 0 = some s ∧ s < N ∧ nx s p = some q ∧ mst nx ul fin N n q = some t ∧ t + ul s = v := by
  cases e : fsF (cdB nx ul (mst nx ul fin N n) p v) N 0 with
  | none =>
    obtain ⟨s, hs, h3⟩ := mst_in h
    rw [fsF_no _ _ _ e s (Nat.zero_le s) (by omega)] at h3
    cases h3
  | some s =>
    obtain ⟨g1, g2, g3⟩ := fsF_in _ _ _ _ e
    obtain ⟨q, t, k1, k2, k3⟩ := cdB_iff.mp g3
    exact ⟨s, q, t, rfl, by omega, k1, k2, k3⟩
/-- the row that is written from a place on by f signs -/
def lst (nx : Nat → Nat → Option Nat) (ul : Nat → Nat) (fin : Nat → Bool) (N : Nat) : Nat → Nat → List Nat
  | 0, _ => []
  | f + 1, p => match fsF (cdB nx ul (mst nx ul fin N f) p ((mst nx ul fin N (f + 1) p).getD 0)) N 0 with
    | none => []
    | some s => s :: lst nx ul fin N f ((nx s p).getD 0)
theorem lst_s {f p v : Nat} (h : mst nx ul fin N (f + 1) p = some v) {s q : Nat} (hf : fsF (cdB nx ul (mst nx ul fin N f) p v) N 0 = some s) (hq : nx s p = some q) : lst nx ul fin N (f + 1) p = s :: lst nx ul fin N f q := by
  rw [lst, h]
  dsimp only [Option.getD_some]
  rw [hf]
  dsimp only
  rw [hq]
  rfl
theorem lst_len : ∀ (f p v : Nat), mst nx ul fin N f p = some v → (lst nx ul fin N f p).length = f ∧ (∀ x ∈ lst nx ul fin N f p, x < N) ∧ smF (fun i => ul (ch (lst nx ul fin N f p) i)) f 0 = v := by
  intro f
  induction f with
  | zero =>
    intro p v h
    rw [mst] at h
    refine ⟨rfl, fun x hx => (by simp [lst] at hx), ?_⟩
    by_cases e : fin p = true
    · rw [if_pos e] at h
      cases h
      rfl
    · rw [if_neg e] at h
      cases h
  | succ f ih =>
    intro p v h
    obtain ⟨s, q, t, h1, h2, h3, h4, h5⟩ := mst_first h
    obtain ⟨g1, g2, g3⟩ := ih q t h4
    rw [lst_s h h1 h3]
    refine ⟨by rw [List.length_cons, g1], fun x hx => ?_, ?_⟩
    · rcases List.mem_cons.mp hx with e | e
      · omega
      · exact g2 x e
    · have sh : ∀ (g : Nat → Nat) (d j : Nat), smF g d (j + 1) = smF (fun i => g (i + 1)) d j := by
        intro g d
        induction d with
        | zero => intro j; rfl
        | succ d ih => intro j; rw [smF, smF, ih]
      rw [smF, sh]
      have e1 : (fun i => ul (ch (s :: lst nx ul fin N f q) (i + 1))) = fun i => ul (ch (lst nx ul fin N f q) i) := by
        funext i
        rfl
      rw [e1, g3]
      show ul s + t = v
      omega
/-- the triple at a place, as it must be -/
def TS (nx : Nat → Nat → Option Nat) (ul : Nat → Nat) (fin : Nat → Bool) (N p : Nat) (a : Nat × Nat × Option Nat) : Prop :=
  (a.1 < 1000 → mst nx ul fin N a.1 p = some a.2.1 ∧ (∀ m, m < a.1 → mst nx ul fin N m p = none) ∧ a.2.2 = (if a.1 = 0 then none else fsF (cdB nx ul (mst nx ul fin N (a.1 - 1)) p a.2.1) N 0)) ∧ (¬ a.1 < 1000 → a = (1000, 0, none) ∧ ∀ m, mst nx ul fin N m p = none)
theorem TS_q {q m t : Nat} {a : Nat × Nat × Option Nat} (h : TS nx ul fin N q a) (hm : mst nx ul fin N m q = some t) : a.1 < 1000 ∧ a.1 ≤ m ∧ (a.1 = m → a.2.1 = t) := by
  by_cases e : a.1 < 1000
  · obtain ⟨h1, h2, h3⟩ := h.1 e
    refine ⟨e, ?_, fun e2 => ?_⟩
    · apply Nat.le_of_not_lt
      intro q1
      rw [h2 m q1] at hm
      cases hm
    · rw [← e2, h1] at hm
      cases hm
      rfl
  · rw [(h.2 e).2 m] at hm
    cases hm
/-- what holds when the signs below s are weighed -/
def WI (nx : Nat → Nat → Option Nat) (ul : Nat → Nat) (fin : Nat → Bool) (N p : Nat) (tb : Nat → Nat × Nat × Option Nat) (s : Nat) (a : Nat × Nat × Option Nat) : Prop :=
  (a.1 < 1000 → (∃ s0, s0 < s ∧ a.2.2 = some s0 ∧ 1 ≤ a.1 ∧ cdB nx ul (mst nx ul fin N (a.1 - 1)) p a.2.1 s0 = true ∧ ∀ s', s' < s0 → cdB nx ul (mst nx ul fin N (a.1 - 1)) p a.2.1 s' = false) ∧ ∀ s' q, s' < s → nx s' p = some q → (tb q).1 < 1000 → a.1 < (tb q).1 + 1 ∨ (a.1 = (tb q).1 + 1 ∧ (tb q).2.1 + ul s' ≤ a.2.1)) ∧ (¬ a.1 < 1000 → a = (1000, 0, none) ∧ ∀ s' q, s' < s → nx s' p = some q → ¬ (tb q).1 < 1000)
theorem WI_step (hnx : ∀ s p q, nx s p = some q → p < q ∧ q ≤ K) (hK : K ≤ 8) {p : Nat} {tb : Nat → Nat × Nat × Option Nat} (htb : ∀ q, p < q → q ≤ K → TS nx ul fin N q (tb q)) {s : Nat} {a : Nat × Nat × Option Nat} (h : WI nx ul fin N p tb s a) : WI nx ul fin N p tb (s + 1) (wS (fun q => (tb q).1) (fun q => (tb q).2.1) ul (nx s p) s a) := by
  unfold wS
  cases e : nx s p with
  | none =>
    dsimp only
    refine ⟨fun e1 => ?_, fun e1 => ?_⟩
    · obtain ⟨⟨s0, g1, g2⟩, g3⟩ := h.1 e1
      refine ⟨⟨s0, by omega, g2⟩, fun s' q h1 h2 h3 => ?_⟩
      by_cases es : s' = s
      · rw [es, e] at h2; cases h2
      · exact g3 s' q (by omega) h2 h3
    · obtain ⟨g1, g2⟩ := h.2 e1
      refine ⟨g1, fun s' q h1 h2 => ?_⟩
      by_cases es : s' = s
      · rw [es, e] at h2; cases h2
      · exact g2 s' q (by omega) h2
  | some q =>
    dsimp only
    obtain ⟨q1, q2⟩ := hnx s p q e
    by_cases e1 : (tb q).1 < 1000
    · rw [if_pos e1]
      obtain ⟨t1, t2, t3⟩ := (htb q q1 q2).1 e1
      have hl := mst_len hnx _ _ _ q2 t1
      by_cases e2 : (tb q).1 + 1 < a.1 ∨ ((tb q).1 + 1 = a.1 ∧ a.2.1 < (tb q).2.1 + ul s)
      · rw [if_pos e2]
        refine ⟨fun _ => ⟨⟨s, by omega, rfl, Nat.succ_le_succ (Nat.zero_le _), ?_, ?_⟩, ?_⟩, fun e3 => absurd (show (tb q).1 + 1 < 1000 by omega) e3⟩
        · exact cdB_iff.mpr ⟨q, (tb q).2.1, e, t1, rfl⟩
        · intro s' hs'
          dsimp only [Nat.add_sub_cancel]
          cases ec : cdB nx ul (mst nx ul fin N ((tb q).1 + 1 - 1)) p ((tb q).2.1 + ul s) s' with
          | false => rfl
          | true =>
            rw [Nat.add_sub_cancel] at ec
            obtain ⟨q', t', k1, k2, k3⟩ := cdB_iff.mp ec
            obtain ⟨q1', q2'⟩ := hnx s' p q' k1
            obtain ⟨j1, j2, j3⟩ := TS_q (htb q' q1' q2') k2
            by_cases ea : a.1 < 1000
            · rcases (h.1 ea).2 s' q' hs' k1 j1 with z | ⟨z1, z2⟩
              · omega
              · rcases e2 with e2 | ⟨e2, e3⟩
                · omega
                · have := j3 (by omega)
                  omega
            · exact absurd j1 ((h.2 ea).2 s' q' hs' k1)
        · intro s' q' h1 h2 h3
          dsimp only
          by_cases es : s' = s
          · rw [es, e] at h2
            cases h2
            rw [es]
            exact Or.inr ⟨rfl, Nat.le_refl _⟩
          · by_cases ea : a.1 < 1000
            · rcases (h.1 ea).2 s' q' (by omega) h2 h3 with z | ⟨z1, z2⟩
              · omega
              · rcases e2 with e2 | ⟨e2, e3⟩
                · omega
                · omega
            · exact absurd h3 ((h.2 ea).2 s' q' (by omega) h2)
      · rw [if_neg e2]
        have ea : a.1 < 1000 := by
          apply Nat.lt_of_not_le
          intro z
          have := (h.2 (by omega)).1
          rw [this] at e2
          dsimp only at e2
          omega
        refine ⟨fun e3 => ?_, fun e3 => absurd ea e3⟩
        obtain ⟨⟨s0, g1, g2⟩, g3⟩ := h.1 e3
        refine ⟨⟨s0, by omega, g2⟩, fun s' q' h1 h2 h3 => ?_⟩
        by_cases es : s' = s
        · rw [es, e] at h2
          cases h2
          rw [es]
          omega
        · exact g3 s' q' (by omega) h2 h3
    · rw [if_neg e1]
      refine ⟨fun e3 => ?_, fun e3 => ?_⟩
      · obtain ⟨⟨s0, g1, g2⟩, g3⟩ := h.1 e3
        refine ⟨⟨s0, by omega, g2⟩, fun s' q' h1 h2 h3 => ?_⟩
        by_cases es : s' = s
        · rw [es, e] at h2
          cases h2
          exact absurd h3 e1
        · exact g3 s' q' (by omega) h2 h3
      · obtain ⟨g1, g2⟩ := h.2 e3
        refine ⟨g1, fun s' q' h1 h2 => ?_⟩
        by_cases es : s' = s
        · rw [es, e] at h2
          cases h2
          exact e1
        · exact g2 s' q' (by omega) h2
theorem WI_fold (hnx : ∀ s p q, nx s p = some q → p < q ∧ q ≤ K) (hK : K ≤ 8) {p : Nat} {tb : Nat → Nat × Nat × Option Nat} (htb : ∀ q, p < q → q ≤ K → TS nx ul fin N q (tb q)) : ∀ (d s : Nat) (a : Nat × Nat × Option Nat), WI nx ul fin N p tb s a → WI nx ul fin N p tb (s + d) (wF (fun s => nx s p) ul (fun q => (tb q).1) (fun q => (tb q).2.1) d s a) := by
  intro d
  induction d with
  | zero => intro s a h; exact h
  | succ d ih =>
    intro s a h
    rw [wF]
    have := ih (s + 1) _ (WI_step hnx hK htb h)
    rw [Nat.add_right_comm] at this
    exact this
theorem WI_end (hnx : ∀ s p q, nx s p = some q → p < q ∧ q ≤ K) {p : Nat} {tb : Nat → Nat × Nat × Option Nat} (htb : ∀ q, p < q → q ≤ K → TS nx ul fin N q (tb q)) {a : Nat × Nat × Option Nat} (hf : fin p = false) (h : WI nx ul fin N p tb N a) : TS nx ul fin N p a := by
  refine ⟨fun e => ?_, fun e => ?_⟩
  · obtain ⟨⟨s0, g1, g2, g3, g4, g5⟩, g6⟩ := h.1 e
    obtain ⟨f, hf1⟩ : ∃ f, a.1 = f + 1 := ⟨a.1 - 1, by omega⟩
    rw [hf1, Nat.add_sub_cancel] at g4 g5
    rw [hf1]
    have hm : mst nx ul fin N (f + 1) p = some a.2.1 := by
      obtain ⟨v, k1, k2⟩ := mst_ge g1 g4
      obtain ⟨s2, k3, k4⟩ := mst_in k1
      obtain ⟨q, t, j1, j2, j3⟩ := cdB_iff.mp k4
      obtain ⟨q1, q2⟩ := hnx s2 p q j1
      obtain ⟨z1, z2, z3⟩ := TS_q (htb q q1 q2) j2
      have : v = a.2.1 := by
        rcases g6 s2 q k3 j1 z1 with y | ⟨y1, y2⟩
        · omega
        · have := z3 (by omega)
          omega
      rw [k1, this]
    refine ⟨hm, fun m hm2 => ?_, ?_⟩
    · cases m with
      | zero => rw [mst, hf]; rfl
      | succ m =>
        cases e3 : mst nx ul fin N (m + 1) p with
        | none => rfl
        | some v =>
          obtain ⟨s2, k3, k4⟩ := mst_in e3
          obtain ⟨q, t, j1, j2, j3⟩ := cdB_iff.mp k4
          obtain ⟨q1, q2⟩ := hnx s2 p q j1
          obtain ⟨z1, z2, z3⟩ := TS_q (htb q q1 q2) j2
          rcases g6 s2 q k3 j1 z1 with y | ⟨y1, y2⟩ <;> omega
    · rw [if_neg (by omega), g2, Nat.add_sub_cancel]
      exact (fsF_eq _ _ _ _ (Nat.zero_le s0) (by omega) g4 (fun i _ hi => g5 i hi)).symm
  · obtain ⟨g1, g2⟩ := h.2 e
    refine ⟨g1, fun m => ?_⟩
    cases m with
    | zero => rw [mst, hf]; rfl
    | succ m =>
      cases e3 : mst nx ul fin N (m + 1) p with
      | none => rfl
      | some v =>
        obtain ⟨s2, k3, k4⟩ := mst_in e3
        obtain ⟨q, t, j1, j2, j3⟩ := cdB_iff.mp k4
        obtain ⟨q1, q2⟩ := hnx s2 p q j1
        obtain ⟨z1, z2, z3⟩ := TS_q (htb q q1 q2) j2
        exact absurd z1 (g2 s2 q k3 j1)
theorem TS_fin {p : Nat} (hf : fin p = true) : TS nx ul fin N p (0, 0, none) :=
  ⟨fun _ => ⟨by show mst nx ul fin N 0 p = some 0; rw [mst, if_pos hf], fun m h => by exact absurd h (Nat.not_lt_zero m), rfl⟩, fun e => absurd (show (0 : Nat) < 1000 by omega) e⟩
end MST
