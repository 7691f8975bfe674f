/-! ===== the class's object and the Model's, side by side ===== -/
def PtAt (T : Tx) (V : Vx) (L D : Nat) : Prop := kd T 0 = 8 ∧ kd T 32 = 3 ∧ fR V 800 0 = some 1 ∧ fR V 801 0 = some 3 ∧ fR V 802 0 = some 5 ∧ fR V 803 0 = some 7 ∧ fR V 804 0 = some 10 ∧ fR V 805 0 = some 32 ∧ fR V 806 0 = some L ∧ fR V 807 0 = some D ∧ ((L = 40 ∧ D = 103) ∨ (L = 103 ∧ D = 40))
def RC (T : Tx) (V : Vx) (L D : Nat) (t : List Nat) (X : Lex) (lo : Bool) (m : Nat) (c : List Nat) (n : Nat) (K : Nat → Nat × Nat) : Prop :=
  PtAt T V L D ∧ LetAt T V 1 2 200 t ∧ RowAt T V 3 4 16 c ∧ RowSh T V 5 6 9 ∧ HiAt T V n K ∧ ScOk T V X lo (stM m) ∧ RdSh T V ∧ LexAt T V L X lo (stM m) ∧ LexSh T V D
def RM (T : Tx) (V : Vx) (t : List Nat) (X : Lex) (lo : Bool) (m : Nat) (c : List Nat) (n : Nat) (Ss : Nat → Snap) : Prop := MwAt T V X lo m ∧ CvAt V X c ∧ TxM V t ∧ PiAt V n Ss
def Rel (T : Tx) (V : Vx) : Prop := kd T 166 = 9 ∧ ∃ (L D : Nat) (t : List Nat) (X : Lex) (lo : Bool) (m : Nat) (c : List Nat) (n : Nat) (K : Nat → Nat × Nat) (Ss : Nat → Snap), RC T V L D t X lo m c n K ∧ RM T V t X lo m c n Ss ∧ CHn X n K Ss (lo, m, c)
theorem PtAt.fr {T : Tx} {V V' : Vx} {L D : Nat} {P : Nat → Prop} (h : PtAt T V L D) (hF : Fr P V V') : PtAt T V' L D := by
  obtain ⟨a1, a2, a3, a4, a5, a6, a7, a8, a9, b1, b2⟩ := h
  rw [← hF.1] at a3 a4 a5 a6 a7 a8 a9 b1
  exact ⟨a1, a2, a3, a4, a5, a6, a7, a8, a9, b1, b2⟩
theorem ScOk.fr {T : Tx} {V V' : Vx} {X : Lex} {lo : Bool} {st : Nat → Bool} {P : Nat → Prop} (h : ScOk T V X lo st) (hX : nw X ≤ 8) (hF : Fr P V V') (hP : ∀ y, 10 ≤ y → y ≤ 31 → ¬ P y) : ScOk T V' X lo st := by
  refine ⟨h.1.fr hF, ?_⟩
  rw [hF.2.2.1 _ _ (hP 10 (by omega) (by omega))]
  rcases h.2 with z | ⟨z1, z2⟩
  · exact Or.inl z
  · exact Or.inr ⟨z1, fun w hw => (z2 w hw).fr hF (hP _ (by omega) (by omega)) (hP _ (by omega) (by omega))⟩
section RE
variable {T : Tx} {V V' : Vx} {L D : Nat} {t : List Nat} {X : Lex} {lo : Bool} {m : Nat} {c : List Nat} {n : Nat} {K : Nat → Nat × Nat} {Ss : Nat → Snap}
/-- a change that touches no told thing of the class -/
theorem RC.frq {P : Nat → Prop} (h : RC T V L D t X lo m c n K) (hF : Fr P V V') (hP : ∀ y, P y → y = 5 ∨ y = 6 ∨ (10 ≤ y ∧ y ≤ 37) ∨ 166 ≤ y) (hS : ScOk T V' X lo (stM m)) : RC T V' L D t X lo m c n K := by
  obtain ⟨a1, a2, a3, a4, a5, a6, a7, a8, a9⟩ := h
  have hd := a1.2.2.2.2.2.2.2.2.2.2
  have np : ∀ y, ¬ (y = 5 ∨ y = 6 ∨ (10 ≤ y ∧ y ≤ 37) ∨ 166 ≤ y) → ¬ P y := fun y h1 h2 => h1 (hP y h2)
  exact ⟨a1.fr hF, a2.fr hF (np _ (by omega)) (np _ (by omega)), a3.fr hF (np _ (by omega)) (np _ (by omega)), a4.fr hF, a5.fr hF (np _ (by omega)) (np _ (by omega)) (np _ (by omega)), hS, a7.fr hF, a8.fr hF (fun a h1 h2 => np _ (by omega)), LexAt.sh' a9 hF⟩
theorem RC.fr {P : Nat → Prop} (h : RC T V L D t X lo m c n K) (hF : Fr P V V') (hP : ∀ y, P y → 166 ≤ y) : RC T V' L D t X lo m c n K :=
  h.frq hF (fun y hy => Or.inr (Or.inr (Or.inr (hP y hy)))) (h.2.2.2.2.2.1.fr h.2.2.2.2.2.2.2.1.2.1.2.1 hF (fun y h1 h2 h3 => by have := hP y h3; omega))
/-- what the class's calls leave as it is -/
def FC (V V' : Vx) : Prop := ∀ a, 166 ≤ a → (∀ f, fI V' f a = fI V f a) ∧ (∀ f, fR V' f a = fR V f a) ∧ (∀ i, aI V' a i = aI V a i) ∧ (∀ i, aL V' a i = aL V a i)
theorem FC.rf : FC V V := fun _ _ => ⟨fun _ => rfl, fun _ => rfl, fun _ => rfl, fun _ => rfl⟩
theorem FC.tr {V1 V2 : Vx} (h : FC V V1) (h2 : FC V1 V2) : FC V V2 := fun a ha => ⟨fun f => ((h2 a ha).1 f).trans ((h a ha).1 f), fun f => ((h2 a ha).2.1 f).trans ((h a ha).2.1 f), fun f => ((h2 a ha).2.2.1 f).trans ((h a ha).2.2.1 f), fun f => ((h2 a ha).2.2.2 f).trans ((h a ha).2.2.2 f)⟩
theorem FC.of {P : Nat → Prop} (hF : Fr P V V') (hP : ∀ y, P y → y < 166) : FC V V' := fun a ha => ⟨fun f => hF.2.2.1 f a (fun z => by have := hP a z; omega), fun f => by rw [hF.1], fun i => hF.2.2.2.1 a i (fun z => by have := hP a z; omega), fun i => hF.2.2.2.2 a i (fun z => by have := hP a z; omega)⟩
theorem RM.fc (h : RM T V t X lo m c n Ss) (hF : FC V V') : RM T V' t X lo m c n Ss := by
  obtain ⟨⟨m1, m2, m3, m4, m5, m6⟩, c1, t1, p1⟩ := h
  have fr : ∀ f, fR V' f 166 = fR V f 166 := (hF 166 (by omega)).2.1
  have fi : ∀ f, fI V' f 166 = fI V f 166 := (hF 166 (by omega)).1
  have a7 : ∀ i, aI V' 167 i = aI V 167 i := (hF 167 (by omega)).2.2.1
  have a8 : ∀ i, aI V' 168 i = aI V 168 i := (hF 168 (by omega)).2.2.1
  have a0 : ∀ i, aI V' 170 i = aI V 170 i := (hF 170 (by omega)).2.2.1
  have a1 : ∀ i, aI V' 171 i = aI V 171 i := (hF 171 (by omega)).2.2.1
  refine ⟨⟨?_, m2, ?_, by rw [a0]; exact m4, by rw [a0]; exact m5, m6⟩, c1.fr a0, ?_, ?_⟩
  · unfold MoSh
    simp only [fr]
    exact m1
  · unfold ToldAt
    simp only [a8]
    exact m3
  · unfold TxM
    simp only [fi, a7]
    exact t1
  · unfold PiAt SnAt
    simp only [fi, a1]
    exact p1
theorem RM.frn (h : RM T V t X lo m c n Ss) (hF : FrN V V') : RM T V' t X lo m c n Ss := by
  obtain ⟨m1, c1, t1, p1⟩ := h
  have a7 : ∀ i, aI V' 167 i = aI V 167 i := fun i => hF.1.2.2.2.1 _ _ (by omega)
  have a1 : ∀ i, aI V' 171 i = aI V 171 i := fun i => hF.1.2.2.2.1 _ _ (by omega)
  refine ⟨m1.frn hF, c1.fr hF.a170, ?_, ?_⟩
  · unfold TxM
    simp only [hF.2.1, a7]
    exact t1
  · unfold PiAt SnAt
    simp only [hF.2.2, a1]
    exact p1
theorem FrN.up (hF : FrN V V') : Fr (fun y => 166 ≤ y) V V' := hF.1.mo (fun y hy => by omega)
/-- a place inside, or not -/
theorem sg_cases (x : Int32) (N : Nat) (hN : N < 2 ^ 31) : (∃ s, s < N ∧ x = nI s) ∨ (x < 0 ∨ nI N ≤ x) := by
  by_cases h : x < 0
  · exact Or.inr (Or.inl h)
  · obtain ⟨j, hj, rfl⟩ := nI_of h
    by_cases e : j < N
    · exact Or.inl ⟨j, e, rfl⟩
    · exact Or.inr (Or.inr (nI_le (by omega) hj))
theorem in_t (T : Tx) (V : Vx) {x a b : Int32} {a' b' : Int64} (ha : a' = a.toInt64) (hb : b' = b.toInt64) (h1 : ¬ x < a) (h2 : ¬ b < x) : Mo_in T V x.toInt64 a' b' = some 1 := by
  rw [ha, hb, in_s, decide_eq_false h1, decide_eq_false h2]; rfl
theorem in_f (T : Tx) (V : Vx) {x a b : Int32} {a' b' : Int64} (ha : a' = a.toInt64) (hb : b' = b.toInt64) (h1 : x < a ∨ b < x) : Mo_in T V x.toInt64 a' b' = some 0 := by
  rw [ha, hb, in_s]
  rcases h1 with h | h
  · rw [decide_eq_true h]; rfl
  · rw [decide_eq_true h, Bool.not_true, Bool.and_false]; rfl
theorem isSign_t (h : MwAt T V X lo m) {s : Nat} (hs : s < ns X) : Mo_isSign T V 166 (nI s) = some 1 := by
  obtain ⟨hM, hX, hT, -⟩ := h
  obtain ⟨-, ⟨c1, c2, c3⟩, -⟩ := hM
  have := hX.1
  rw [Mo_isSign, c3, ck_s c1, bd_s, show (164 : Int32) = nI 164 from rfl, c2, gd_s (inb_n (by omega) (by omega)), cl_n (by omega), hT.1, show nI (ns X) - 1 = nI (ns X - 1) by
      have := nI_pred (ns X - 1)
      rw [show ns X - 1 + 1 = ns X by omega] at this
      exact this, in_t T V (a := 0) (a' := 0) (b := nI (ns X - 1)) rfl rfl (n_lt (by omega)) (by rw [nI_ltI (by omega) (by omega)]; omega), bd_s, gd_s (by decide)]
theorem pred_lt {x : Int32} {N : Nat} (hN : N < 2 ^ 30) (h : x < 0 ∨ nI N ≤ x) : x < 0 ∨ nI N - 1 < x := by
  rcases h with h | h
  · exact Or.inl h
  · right
    by_cases e : N = 0
    · subst e
      exact Int32.lt_of_lt_of_le (by decide) h
    · have := nI_pred (N - 1)
      rw [show N - 1 + 1 = N by omega] at this
      rw [this]
      exact Int32.lt_of_lt_of_le (nI_lt (by omega) (by omega)) h
theorem isSign_f (h : MwAt T V X lo m) {x : Int32} (hx : x < 0 ∨ nI (ns X) ≤ x) : Mo_isSign T V 166 x = some 0 := by
  obtain ⟨hM, hX, hT, -⟩ := h
  obtain ⟨-, ⟨c1, c2, c3⟩, -⟩ := hM
  have := hX.1
  rw [Mo_isSign, c3, ck_s c1, bd_s, show (164 : Int32) = nI 164 from rfl, c2, gd_s (inb_n (by omega) (by omega)), cl_n (by omega), hT.1, in_f T V (a := 0) (a' := 0) (b := nI (ns X) - 1) rfl rfl (pred_lt (by omega) hx), bd_s, gd_s (by decide)]
theorem isWord_t (h : MwAt T V X lo m) {s : Nat} (hs : s < nw X) : Mo_isWord T V 166 (nI s) = some 1 := by
  obtain ⟨hM, hX, hT, -⟩ := h
  obtain ⟨-, ⟨c1, c2, c3⟩, -⟩ := hM
  have := hX.2.1
  rw [Mo_isWord, c3, ck_s c1, bd_s, show (165 : Int32) = nI 165 from rfl, c2, gd_s (inb_n (by omega) (by omega)), cl_n (by omega), hT.2.1, show nI (nw X) - 1 = nI (nw X - 1) by
      have := nI_pred (nw X - 1)
      rw [show nw X - 1 + 1 = nw X by omega] at this
      exact this, in_t T V (a := 0) (a' := 0) (b := nI (nw X - 1)) rfl rfl (n_lt (by omega)) (by rw [nI_ltI (by omega) (by omega)]; omega), bd_s, gd_s (by decide)]
theorem isWord_f (h : MwAt T V X lo m) {x : Int32} (hx : x < 0 ∨ nI (nw X) ≤ x) : Mo_isWord T V 166 x = some 0 := by
  obtain ⟨hM, hX, hT, -⟩ := h
  obtain ⟨-, ⟨c1, c2, c3⟩, -⟩ := hM
  have := hX.2.1
  rw [Mo_isWord, c3, ck_s c1, bd_s, show (165 : Int32) = nI 165 from rfl, c2, gd_s (inb_n (by omega) (by omega)), cl_n (by omega), hT.2.1, in_f T V (a := 0) (a' := 0) (b := nI (nw X) - 1) rfl rfl (pred_lt (by omega) hx), bd_s, gd_s (by decide)]
theorem stM_xor (m s i : Nat) : stM (m ^^^ 2 ^ s) i = if i = s then !(stM m s) else stM m i := by
  unfold stM
  rw [Nat.testBit_xor, Nat.testBit_two_pow]
  by_cases e : i = s
  · rw [if_pos e, e, decide_eq_true rfl, Bool.xor_true]
  · rw [if_neg e, decide_eq_false (fun z => e z.symm), Bool.xor_false]
theorem pp_ct {b N : Nat} (hb : b < 2 ^ N) (hN : N ≤ 16) : pp b = ctF (stM b) N 0 := by
  have key : ∀ d e j : Nat, j + d = N → ctF (fun i => b.testBit i) (d + e) j = ctF (fun i => b.testBit i) d j := by
    intro d
    induction d with
    | zero =>
      intro e j hj
      rw [Nat.zero_add]
      have : ∀ e j, N ≤ j → ctF (fun i => b.testBit i) e j = 0 := by
        intro e
        induction e with
        | zero => intro j _; rfl
        | succ e ih =>
          intro j hj
          rw [ctF, ih (j + 1) (by omega), Nat.testBit_lt_two_pow (Nat.lt_of_lt_of_le hb (Nat.pow_le_pow_right (by decide) hj))]
          rfl
      rw [this e j (by omega)]; rfl
    | succ d ih =>
      intro e j hj
      rw [show d + 1 + e = (d + e) + 1 by omega, ctF, ctF, ih e (j + 1) (by omega)]
  have := key N (16 - N) 0 (by omega)
  rw [show N + (16 - N) = 16 by omega] at this
  exact this
end RE
