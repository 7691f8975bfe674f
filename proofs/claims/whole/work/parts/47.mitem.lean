/-! ===== one item of a text, by the Model ===== -/
def TxM (V : Vx) (t : List Nat) : Prop := t.length ≤ 200 ∧ fI V 900 166 = nI t.length ∧ (∀ k, k < t.length → aI V 167 k = nI (ch t k)) ∧ ∀ x ∈ t, x < 128
/-- what reading a text changes in the Model -/
def FrF (V V' : Vx) : Prop := Fr (fun y => y = 166 ∨ y = 169) V V' ∧ ∀ f, f ≠ 902 → fI V' f 166 = fI V f 166
theorem FrF.rf {V : Vx} : FrF V V := ⟨Fr.rf, fun _ _ => rfl⟩
theorem FrF.tr {V V1 V2 : Vx} (h : FrF V V1) (h2 : FrF V1 V2) : FrF V V2 := ⟨h.1.tr h2.1, fun f hf => (h2.2 f hf).trans (h.2 f hf)⟩
theorem FrF.wI (V : Vx) {i : Nat} {v : Int32} : FrF V (wI V 169 i v) := ⟨Fr.wI _ _ _ _ (Or.inr rfl), fun _ _ => rfl⟩
theorem FrF.sI (V : Vx) {v : Int32} : FrF V (sI V 902 166 v) := ⟨Fr.sI _ _ _ _ (Or.inl rfl), fun f hf => by rw [fI_sI, if_neg (fun z => hf z.1)]⟩
theorem TxM.fr {V V' : Vx} {t : List Nat} (h : TxM V t) (hF : FrF V V') : TxM V' t := ⟨h.1, by rw [hF.2 900 (by decide)]; exact h.2.1, fun k hk => by rw [hF.1.2.2.2.1 _ _ (by omega)]; exact h.2.2.1 k hk, h.2.2.2⟩
section MT
variable {T : Tx}
theorem byteAt_s {V : Vx} (hM : MoSh T V) {t : List Nat} (ht : TxM V t) {p : Nat} (hp : p < 1000) : Mo_byteAt T V 166 (nI p) = some (nI (ch t p)) := by
  obtain ⟨⟨a1, a2, a3⟩, -⟩ := hM
  obtain ⟨h1, h2, h3, h4⟩ := ht
  rw [Mo_byteAt, h2, if_le (by omega) (by omega)]
  by_cases e : t.length ≤ p
  · rw [if_pos e, ch_out e]; rfl
  · rw [if_neg e, a3, ck_s a1, bd_s, a2, gd_s (inb_n (by omega) (by omega)), cl_n (by omega), h3 p (by omega)]
theorem sub48 : ∀ c, c < 128 → ∀ hi, hi < 6 → (!(decide (nI c - 48 < nI 0)) && !(decide (nI hi < nI c - 48))) = decide (48 ≤ c ∧ c ≤ 48 + hi) := by decide +kernel
theorem figure_s {V : Vx} (hM : MoSh T V) {t : List Nat} (ht : TxM V t) {p : Nat} (hp : p < 1000) (hs : fI V 902 166 = nI p) {to hi : Nat} (hto : to < 167) (hhi : hi < 6) :
    ∃ V', Mo_figure T V 166 (nI to) (nI hi) = some (bi (dg t p hi).isSome, V') ∧ FrF V V' ∧ fI V' 902 166 = nI (p + 1) ∧ (∀ d, dg t p hi = some d → aI V' 169 to = nI d) ∧ ∀ i, i ≠ to → aI V' 169 i = aI V 169 i := by
  have hM' := hM
  obtain ⟨-, -, ⟨c1, c2, c3⟩, -⟩ := hM'
  have h128 := gD_lt ht.2.2.2 (by decide) p
  refine ⟨sI (wI V 169 to (nI (ch t p) - 48)) 902 166 (nI (p + 1)), ?_, (FrF.wI V).tr (FrF.sI _), by rw [fI_sI, if_pos ⟨rfl, rfl⟩], fun d hd => ?_, fun i hi => by rw [aI_sI, aI_wI, if_neg (fun z => hi z.2)]⟩
  · rw [Mo_figure, hs, byteAt_s hM ht hp, bd_s, lt, c3, ck_s c1, bd_s, c2, gd_s (inb_n (by omega) (by omega)), lt, cl_n (by omega), lt, fI_wI, hs, nI_1, show (0 : Int64) = (nI 0).toInt64 from rfl, in_s, bd_s, gd_s (zo_bi _), sub48 _ h128 hi hhi]
    unfold dg
    by_cases e : 48 ≤ ch t p ∧ ch t p ≤ 48 + hi
    · rw [if_pos e, decide_eq_true e]; rfl
    · rw [if_neg e, decide_eq_false e]; rfl
  · rw [aI_sI, aI_wI, if_pos ⟨rfl, rfl⟩]
    unfold dg at hd
    by_cases e : 48 ≤ ch t p ∧ ch t p ≤ 48 + hi
    · rw [if_pos e] at hd
      cases hd
      have := nI_subn 48 (ch t p - 48)
      rw [show 48 + (ch t p - 48) = ch t p by omega] at this
      exact this
    · rw [if_neg e] at hd; cases hd
theorem gone_s {V : Vx} (hM : MoSh T V) {t : List Nat} (ht : TxM V t) {p : Nat} (hp : p < 1000) (hs : fI V 902 166 = nI p) {c : Nat} (hc : c < 128) :
    ∃ V', Mo_gone T V 166 (nI c) = some (bi (decide (ch t p = c)), V') ∧ FrF V V' ∧ fI V' 902 166 = nI (p + 1) ∧ ∀ i, aI V' 169 i = aI V 169 i := by
  have h128 := gD_lt ht.2.2.2 (by decide) p
  refine ⟨sI V 902 166 (nI (p + 1)), ?_, FrF.sI V, by rw [fI_sI, if_pos ⟨rfl, rfl⟩], fun i => by rw [aI_sI]⟩
  rw [Mo_gone, hs, byteAt_s hM ht hp, bd_s, if_eqn (by omega) (by omega)]
  by_cases e : ch t p = c
  · rw [if_pos e, bd_s, lt, nI_1, gd_s (by decide), decide_eq_true e]; rfl
  · rw [if_neg e, bd_s, lt, nI_1, gd_s (by decide), decide_eq_false e]; rfl
/-- how many letters come one behind the other, up to some -/
def glF (t : List Nat) : Nat → Nat → Nat
  | 0, _ => 0
  | d + 1, p => if isA (ch t p) = true then 1 + glF t d (p + 1) else 0
theorem glF_spec (t : List Nat) : ∀ (d p : Nat), glF t d p ≤ d ∧ (∀ i, i < glF t d p → isA (ch t (p + i)) = true) ∧ (glF t d p < d → isA (ch t (p + glF t d p)) = false) := by
  intro d
  induction d with
  | zero => intro p; exact ⟨Nat.le_refl 0, fun i hi => absurd hi (Nat.not_lt_zero i), fun h => absurd h (Nat.not_lt_zero 0)⟩
  | succ d ih =>
    intro p
    rw [glF]
    cases e : isA (ch t p) with
    | false => rw [if_neg (by decide)]; exact ⟨Nat.zero_le _, fun i hi => absurd hi (Nat.not_lt_zero i), fun _ => e⟩
    | true =>
      rw [if_pos rfl]
      obtain ⟨h1, h2, h3⟩ := ih (p + 1)
      refine ⟨by omega, fun i hi => ?_, fun h => ?_⟩
      · cases i with
        | zero => exact e
        | succ i =>
          have := h2 i (by omega)
          rw [show p + 1 + i = p + (i + 1) by omega] at this
          exact this
      · have := h3 (by omega)
        rw [show p + 1 + glF t d (p + 1) = p + (1 + glF t d (p + 1)) by omega] at this
        exact this
theorem in_az (T : Tx) (V : Vx) {c : Nat} (hc : c < 128) : Mo_in T V (Int32.toInt64 (nI c)) 97 122 = some (bi (isA c)) := by
  rw [show (97 : Int64) = (nI 97).toInt64 from rfl, show (122 : Int64) = (nI 122).toInt64 from rfl, in_s]
  unfold isA
  have h1 : decide (nI c < nI 97) = decide (c < 97) := by rw [decide_eq_decide]; exact nI_ltI (by omega) (by omega)
  have h2 : decide (nI 122 < nI c) = decide (122 < c) := by rw [decide_eq_decide]; exact nI_ltI (by omega) (by omega)
  rw [h1, h2]
  congr 2
  by_cases e : 97 ≤ c
  · rw [decide_eq_false (show ¬ c < 97 by omega), decide_eq_true e]
    by_cases e2 : c ≤ 122
    · rw [decide_eq_false (show ¬ 122 < c by omega), decide_eq_true e2]; rfl
    · rw [decide_eq_true (show 122 < c by omega), decide_eq_false e2]; rfl
  · rw [decide_eq_true (show c < 97 by omega), decide_eq_false e]; rfl
theorem letters_l {t : List Nat} {to most : Nat} (hto : to + 1 + most ≤ 167) : ∀ (d k n p : Nat) (V : Vx), n + d = most → d < k → p + d < 1000 → MoSh T V → TxM V t → fI V 902 166 = nI p →
    ∃ V', Mo_letters_L2 T 166 (nI to) (nI most) k V (nI n) = some (nI (n + glF t d p), V') ∧ FrF V V' ∧ fI V' 902 166 = nI (p + glF t d p) ∧ (∀ i, i < glF t d p → aI V' 169 (to + 1 + (n + i)) = nI (ch t (p + i))) ∧ ∀ i, (i < to + 1 + n ∨ to + 1 + n + glF t d p ≤ i) → aI V' 169 i = aI V 169 i := by
  intro d
  induction d with
  | zero =>
    intro k n p V hn hk hp hM ht hs
    obtain ⟨k, rfl⟩ : ∃ m, k = m + 1 := ⟨k - 1, by omega⟩
    refine ⟨V, ?_, FrF.rf, hs, fun i hi => absurd hi (Nat.not_lt_zero i), fun _ _ => rfl⟩
    rw [Mo_letters_L2, if_le (by omega) (by omega), if_pos (by omega)]
    rfl
  | succ d ih =>
    intro k n p V hn hk hp hM ht hs
    obtain ⟨k, rfl⟩ : ∃ m, k = m + 1 := ⟨k - 1, by omega⟩
    have hM' := hM
    obtain ⟨-, -, ⟨c1, c2, c3⟩, -⟩ := hM'
    have h128 := gD_lt ht.2.2.2 (by decide) p
    rw [Mo_letters_L2, if_le (by omega) (by omega), if_neg (by omega), hs, byteAt_s hM ht (by omega), bd_s, in_az T V h128, bd_s, if_bi, glF]
    cases e : isA (ch t p) with
    | false =>
      rw [if_neg (by decide), if_neg (by decide)]
      exact ⟨V, rfl, FrF.rf, hs, fun i hi => absurd hi (Nat.not_lt_zero i), fun _ _ => rfl⟩
    | true =>
      obtain ⟨V1, hV1⟩ : ∃ V1, V1 = sI (wI V 169 (to + 1 + n) (nI (ch t p))) 902 166 (nI (p + 1)) := ⟨_, rfl⟩
      have hF : FrF V V1 := by rw [hV1]; exact (FrF.wI V).tr (FrF.sI _)
      obtain ⟨V', g1, g2, g3, g4, g5⟩ := ih k (n + 1) (p + 1) V1 (by omega) (by omega) (by omega) (hM.fr hF.1) (ht.fr hF) (by rw [hV1, fI_sI, if_pos ⟨rfl, rfl⟩])
      have h169 : ∀ i, aI V1 169 i = if i = to + 1 + n then nI (ch t p) else aI V 169 i := by
        intro i
        rw [hV1, aI_sI, aI_wI]
        by_cases ei : i = to + 1 + n
        · rw [if_pos ⟨rfl, ei⟩, if_pos ei]
        · rw [if_neg (fun z => ei z.2), if_neg ei]
      rw [if_pos rfl, if_pos rfl]
      refine ⟨V', ?_, hF.tr g2, by rw [g3]; congr 1; omega, fun i hi => ?_, fun i hi => ?_⟩
      · rw [c3, ck_s c1, bd_s, bd_s, nI_1, nI_add, c2, gd_s (inb_n (by omega) (by omega)), lt, cl_n (by omega), lt, fI_wI, hs, nI_1, ← hV1, nI_1, g1]
        congr 3
        omega
      · cases i with
        | zero =>
          rw [g5 _ (by omega), h169, if_pos (by omega)]
          rfl
        | succ i =>
          have := g4 i (by omega)
          rw [show n + 1 + i = n + (i + 1) by omega, show p + 1 + i = p + (i + 1) by omega] at this
          exact this
      · rw [g5 i (by omega), h169, if_neg (by omega)]
theorem letters_s {V : Vx} (hM : MoSh T V) {t : List Nat} (ht : TxM V t) {p : Nat} (hp : p < 900) (hs : fI V 902 166 = nI p) {to most : Nat} (hto : to + 1 + most ≤ 167) (h8 : most ≤ 8) :
    ∃ V', Mo_letters T V 166 (nI to) (nI most) = some (bi (decide (0 < glF t most p)), V') ∧ FrF V V' ∧ fI V' 902 166 = nI (p + glF t most p) ∧ aI V' 169 to = nI (glF t most p) ∧ (∀ i, i < glF t most p → aI V' 169 (to + 1 + i) = nI (ch t (p + i))) ∧ ∀ i, (i < to ∨ to + 1 + most ≤ i) → aI V' 169 i = aI V 169 i := by
  have hM' := hM
  obtain ⟨-, -, ⟨c1, c2, c3⟩, -⟩ := hM'
  obtain ⟨V1, g1, g2, g3, g4, g5⟩ := letters_l (T := T) (t := t) hto most FU 0 p V (by omega) (by rw [← FU_big]; omega) (by omega) hM ht hs
  have hgl := (glF_spec t most p).1
  rw [Nat.zero_add] at g1
  refine ⟨wI V1 169 to (nI (glF t most p)), ?_, g2.tr (FrF.wI V1), g3, by rw [aI_wI, if_pos ⟨rfl, rfl⟩], fun i hi => ?_, fun i hi => ?_⟩
  · rw [Mo_letters, show (0 : Int32) = nI 0 from rfl, g1, bd2_s, g2.1.1, c3, ck_s c1, bd_s, c2, gd_s (inb_n (by omega) (by omega)), lt, cl_n (by omega), if_le (by omega) (by omega)]
    by_cases e : glF t most p ≤ 0
    · rw [if_pos e, decide_eq_false (by omega)]; rfl
    · rw [if_neg e, decide_eq_true (by omega)]; rfl
  · have := g4 i hi
    rw [Nat.zero_add] at this
    rw [aI_wI, if_neg (fun z => by omega), this]
  · rw [aI_wI, if_neg (fun z => by omega), g5 i (by omega)]
end MT
