/-! ===== what can be undone, by the Model ===== -/
def FrU (V V' : Vx) : Prop := Fr (fun y => y = 166 ∨ y = 170 ∨ y = 171) V V' ∧ ∀ f, f ≠ 907 → fI V' f 166 = fI V f 166
theorem FrU.rf {V : Vx} : FrU V V := ⟨Fr.rf, fun _ _ => rfl⟩
theorem FrU.tr {V V1 V2 : Vx} (h : FrU V V1) (h2 : FrU V1 V2) : FrU V V2 := ⟨h.1.tr h2.1, fun f hf => (h2.2 f hf).trans (h.2 f hf)⟩
theorem FrU.wI (V : Vx) {a i : Nat} {v : Int32} (h : a = 170 ∨ a = 171) : FrU V (wI V a i v) := ⟨Fr.wI _ _ _ _ (Or.inr h), fun _ _ => rfl⟩
theorem FrU.sI (V : Vx) {v : Int32} : FrU V (sI V 907 166 v) := ⟨Fr.sI _ _ _ _ (Or.inl rfl), fun f hf => by rw [fI_sI, if_neg (fun z => hf z.1)]⟩
theorem ix19 (k i : Nat) : (19 * nI k) + nI i = nI (19 * k + i) := by
  rw [show (19 : Int32) = nI 19 from rfl, nI_mul, nI_add]
section MN
variable {T : Tx}
theorem note11 : ∀ (d n k : Nat) (V : Vx), k + d = 95 → d < n → MoSh T V → ∃ V', Mo_note_L11 T 166 n V (nI k) = some V' ∧ FrU V V' ∧ (∀ i, aI V' 170 i = aI V 170 i) ∧ fI V' 907 166 = fI V 907 166 ∧ ∀ i, aI V' 171 i = if k ≤ i ∧ i < 95 then aI V 171 (19 + i) else aI V 171 i := by
  intro d
  induction d with
  | zero =>
    intro n k V hk hn hM
    obtain ⟨n, rfl⟩ : ∃ m, n = m + 1 := ⟨n - 1, by omega⟩
    refine ⟨V, ?_, FrU.rf, fun _ => rfl, rfl, fun i => by rw [if_neg (by omega)]⟩
    rw [Mo_note_L11, show (95 : Int32) = nI 95 from rfl, if_le (by omega) (by omega), if_pos (by omega)]
  | succ d ih =>
    intro n k V hk hn hM
    obtain ⟨n, rfl⟩ : ∃ m, n = m + 1 := ⟨n - 1, by omega⟩
    have hM' := hM
    obtain ⟨-, -, -, -, ⟨c1, c2, c3⟩, -⟩ := hM'
    have hF : FrU V (wI V 171 k (aI V 171 (19 + k))) := FrU.wI V (Or.inr rfl)
    obtain ⟨V', g1, g2, g3, g4, g5⟩ := ih n (k + 1) (wI V 171 k (aI V 171 (19 + k))) (by omega) (by omega) (hM.fr hF.1)
    refine ⟨V', ?_, hF.tr g2, fun i => by rw [g3, aI_wI, if_neg (fun z => absurd z.1 (by decide))], by rw [g4]; rfl, fun i => ?_⟩
    · rw [Mo_note_L11, show (95 : Int32) = nI 95 from rfl, if_le (by omega) (by omega), if_neg (by omega), c3, ck_s c1, bd_s, bd_s, show (19 : Int32) = nI 19 from rfl, nI_add, c2, gd_s (inb_n (by omega) (by omega)), gd_s (inb_n (by omega) (by omega)), lt, cl_n (by omega), cl_n (by omega), nI_1]
      exact g1
    · rw [g5]
      by_cases e : k + 1 ≤ i ∧ i < 95
      · rw [if_pos e, if_pos (by omega), aI_wI, if_neg (fun z => by omega)]
      · rw [if_neg e, aI_wI]
        by_cases e2 : i = k
        · rw [if_pos ⟨rfl, e2⟩, if_pos (by omega), e2]
        · rw [if_neg (fun z => e2 z.2), if_neg (by omega)]
theorem note50 {u : Nat} (hu : u < 6) : ∀ (d n k : Nat) (V : Vx), k + d = 19 → d < n → MoSh T V → fI V 907 166 = nI u → ∃ V', Mo_note_L50 T 166 n V (nI k) = some V' ∧ FrU V V' ∧ (∀ i, aI V' 170 i = aI V 170 i) ∧ fI V' 907 166 = fI V 907 166 ∧ ∀ i, aI V' 171 i = if 19 * u + k ≤ i ∧ i < 19 * u + 19 then aI V 170 (i - 19 * u) else aI V 171 i := by
  intro d
  induction d with
  | zero =>
    intro n k V hk hn hM hf
    obtain ⟨n, rfl⟩ : ∃ m, n = m + 1 := ⟨n - 1, by omega⟩
    refine ⟨V, ?_, FrU.rf, fun _ => rfl, rfl, fun i => by rw [if_neg (by omega)]⟩
    rw [Mo_note_L50, show (19 : Int32) = nI 19 from rfl, if_le (by omega) (by omega), if_pos (by omega)]
  | succ d ih =>
    intro n k V hk hn hM hf
    obtain ⟨n, rfl⟩ : ∃ m, n = m + 1 := ⟨n - 1, by omega⟩
    have hM' := hM
    obtain ⟨-, -, -, ⟨b1, b2, b3⟩, ⟨c1, c2, c3⟩, -⟩ := hM'
    have hF : FrU V (wI V 171 (19 * u + k) (aI V 170 k)) := FrU.wI V (Or.inr rfl)
    obtain ⟨V', g1, g2, g3, g4, g5⟩ := ih n (k + 1) (wI V 171 (19 * u + k) (aI V 170 k)) (by omega) (by omega) (hM.fr hF.1) hf
    refine ⟨V', ?_, hF.tr g2, fun i => by rw [g3, aI_wI, if_neg (fun z => absurd z.1 (by decide))], by rw [g4]; rfl, fun i => ?_⟩
    · rw [Mo_note_L50, hf, ix19, show (19 : Int32) = nI 19 from rfl, if_le (by omega) (by omega), if_neg (by omega), c3, ck_s c1, bd_s, b3, ck_s b1, bd_s, b2, gd_s (inb_n (by omega) (by omega)), c2, gd_s (inb_n (by omega) (by omega)), lt, cl_n (by omega), cl_n (by omega), nI_1]
      exact g1
    · rw [g5]
      by_cases e : 19 * u + (k + 1) ≤ i ∧ i < 19 * u + 19
      · rw [if_pos e, if_pos (by omega), aI_wI, if_neg (fun z => absurd z.1 (by decide))]
      · rw [if_neg e, aI_wI]
        by_cases e2 : i = 19 * u + k
        · rw [if_pos ⟨rfl, e2⟩, if_pos (by omega), e2, show 19 * u + k - 19 * u = k by omega]
        · rw [if_neg (fun z => e2 z.2), if_neg (by omega)]
theorem undo22 {u : Nat} (hu : u < 6) : ∀ (d n k : Nat) (V : Vx), k + d = 19 → d < n → MoSh T V → fI V 907 166 = nI u → ∃ V', Mo_undo_L22 T 166 n V (nI k) = some (nI u, V') ∧ FrU V V' ∧ (∀ i, aI V' 171 i = aI V 171 i) ∧ fI V' 907 166 = nI u ∧ ∀ i, aI V' 170 i = if k ≤ i ∧ i < 19 then aI V 171 (19 * u + i) else aI V 170 i := by
  intro d
  induction d with
  | zero =>
    intro n k V hk hn hM hf
    obtain ⟨n, rfl⟩ : ∃ m, n = m + 1 := ⟨n - 1, by omega⟩
    refine ⟨V, ?_, FrU.rf, fun _ => rfl, hf, fun i => by rw [if_neg (by omega)]⟩
    rw [Mo_undo_L22, hf, show (19 : Int32) = nI 19 from rfl, if_le (by omega) (by omega), if_pos (by omega)]
  | succ d ih =>
    intro n k V hk hn hM hf
    obtain ⟨n, rfl⟩ : ∃ m, n = m + 1 := ⟨n - 1, by omega⟩
    have hM' := hM
    obtain ⟨-, -, -, ⟨b1, b2, b3⟩, ⟨c1, c2, c3⟩, -⟩ := hM'
    have hF : FrU V (wI V 170 k (aI V 171 (19 * u + k))) := FrU.wI V (Or.inl rfl)
    obtain ⟨V', g1, g2, g3, g4, g5⟩ := ih n (k + 1) (wI V 170 k (aI V 171 (19 * u + k))) (by omega) (by omega) (hM.fr hF.1) hf
    refine ⟨V', ?_, hF.tr g2, fun i => by rw [g3, aI_wI, if_neg (fun z => absurd z.1 (by decide))], g4, fun i => ?_⟩
    · rw [Mo_undo_L22, hf, ix19, show (19 : Int32) = nI 19 from rfl, if_le (by omega) (by omega), if_neg (by omega), b3, ck_s b1, bd_s, c3, ck_s c1, bd_s, c2, gd_s (inb_n (by omega) (by omega)), b2, gd_s (inb_n (by omega) (by omega)), lt, cl_n (by omega), cl_n (by omega), nI_1]
      exact g1
    · rw [g5]
      by_cases e : k + 1 ≤ i ∧ i < 19
      · rw [if_pos e, if_pos (by omega), aI_wI, if_neg (fun z => absurd z.1 (by decide))]
      · rw [if_neg e, aI_wI]
        by_cases e2 : i = k
        · rw [if_pos ⟨rfl, e2⟩, if_pos (by omega), e2]
        · rw [if_neg (fun z => e2 z.2), if_neg (by omega)]
theorem anew2 : ∀ (d n k : Nat) (V : Vx), k + d = 19 → d < n → MoSh T V → (∀ i, i < k → aI V 170 i = 0) → ∃ V', Mo_anew_L2 T 166 n V (nI k) = some V' ∧ FrU V V' ∧ ∀ i, i < 19 → aI V' 170 i = 0 := by
  intro d
  induction d with
  | zero =>
    intro n k V hk hn hM h0
    obtain ⟨n, rfl⟩ : ∃ m, n = m + 1 := ⟨n - 1, by omega⟩
    refine ⟨V, ?_, FrU.rf, fun i hi => h0 i (by omega)⟩
    rw [Mo_anew_L2, show (19 : Int32) = nI 19 from rfl, if_le (by omega) (by omega), if_pos (by omega)]
  | succ d ih =>
    intro n k V hk hn hM h0
    obtain ⟨n, rfl⟩ : ∃ m, n = m + 1 := ⟨n - 1, by omega⟩
    have hM' := hM
    obtain ⟨-, -, -, ⟨b1, b2, b3⟩, -⟩ := hM'
    have hF : FrU V (wI V 170 k 0) := FrU.wI V (Or.inl rfl)
    obtain ⟨V', g1, g2, g3⟩ := ih n (k + 1) (wI V 170 k 0) (by omega) (by omega) (hM.fr hF.1) (fun i hi => by
      rw [aI_wI]
      by_cases e : i = k
      · rw [if_pos ⟨rfl, e⟩]
      · rw [if_neg (fun z => e z.2)]; exact h0 i (by omega))
    refine ⟨V', ?_, hF.tr g2, g3⟩
    rw [Mo_anew_L2, show (19 : Int32) = nI 19 from rfl, if_le (by omega) (by omega), if_neg (by omega), b3, ck_s b1, bd_s, b2, gd_s (inb_n (by omega) (by omega)), lt, cl_n (by omega), nI_1]
    exact g1
/-- the Model's pile of what was before -/
def PiAt (V : Vx) (n : Nat) (Ss : Nat → Snap) : Prop := n ≤ 6 ∧ fI V 907 166 = nI n ∧ ∀ i, i < n → SnAt V 171 (19 * i) (Ss i)
theorem SnAt.mv {V V' : Vx} {a a' o o' : Nat} {S : Snap} (h : SnAt V a o S) (hl : S.2.2.length ≤ 16) (he : ∀ i, i < 19 → aI V' a' (o' + i) = aI V a (o + i)) : SnAt V' a' o' S := by
  obtain ⟨h1, h2, h3, h4⟩ := h
  refine ⟨?_, by rw [he 1 (by omega)]; exact h2, by rw [he 2 (by omega)]; exact h3, fun k hk => ?_⟩
  · have := he 0 (by omega)
    rw [Nat.add_zero, Nat.add_zero] at this
    rw [this]; exact h1
  · rw [Nat.add_assoc, he (3 + k) (by omega), ← Nat.add_assoc]; exact h4 k hk
theorem note_s {V : Vx} (hM : MoSh T V) {n : Nat} {Ss : Nat → Snap} (h : PiAt V n Ss) (hl : ∀ i, i ≤ n → (Ss i).2.2.length ≤ 16) (hS : SnAt V 170 0 (Ss n)) (S' : Snap) :
    ∃ V', Mo_note T V 166 = some V' ∧ FrU V V' ∧ (∀ i, aI V' 170 i = aI V 170 i) ∧ PiAt V' (min n 5 + 1) (psh n Ss (min n 5 + 1) S') := by
  have key : ∃ V1, (if (fI V 907 166) = 6 then bd (Mo_note_L11 T 166 FU V 0) (fun V11 => lt (sI V11 907 166 ((fI V11 907 166) - 1)) (fun V27 => some V27)) else some V) = some V1 ∧ FrU V V1 ∧ (∀ i, aI V1 170 i = aI V 170 i) ∧ fI V1 907 166 = nI (min n 5) ∧ ∀ i, i < min n 5 → SnAt V1 171 (19 * i) (shf n Ss i) := by
    obtain ⟨a1, a2, a3⟩ := h
    rw [a2, show (6 : Int32) = nI 6 from rfl, if_eqn (by omega) (by omega)]
    by_cases e : n = 6
    · obtain ⟨V1, g1, g2, g3, g4, g5⟩ := note11 (T := T) 95 FU 0 V (by omega) (by rw [← FU_big]; omega) hM
      refine ⟨sI V1 907 166 (nI 5), ?_, g2.tr (FrU.sI V1), fun i => by rw [aI_sI, g3], by rw [fI_sI, if_pos ⟨rfl, rfl⟩, show min n 5 = 5 by omega], fun i hi => ?_⟩
      · rw [if_pos e, show (0 : Int32) = nI 0 from rfl, g1, bd_s, lt, g4, a2, e, nI_pred]
      · rw [show shf n Ss = fun i => Ss (i + 1) from if_pos e]
        refine (a3 (i + 1) (by omega)).mv (hl (i + 1) (by omega)) (fun j hj => ?_)
        rw [aI_sI, g5, if_pos (by omega)]
        congr 1
        omega
    · refine ⟨V, if_neg e, FrU.rf, fun _ => rfl, by rw [a2, show min n 5 = n by omega], fun i hi => ?_⟩
      rw [show shf n Ss = Ss from if_neg e]
      exact a3 i (by omega)
  obtain ⟨V1, k1, k2, k3, k4, k5⟩ := key
  obtain ⟨V2, g1, g2, g3, g4, g5⟩ := note50 (T := T) (u := min n 5) (by omega) 19 FU 0 V1 (by omega) (by rw [← FU_big]; omega) (hM.fr k2.1) k4
  have hsn : shf n Ss (min n 5) = Ss n := by
    unfold shf
    by_cases e : n = 6
    · rw [if_pos e]; show Ss (min n 5 + 1) = Ss n; rw [show min n 5 + 1 = n by omega]
    · rw [if_neg e, show min n 5 = n by have := h.1; omega]
  refine ⟨sI V2 907 166 (nI (min n 5 + 1)), ?_, (k2.tr g2).tr (FrU.sI V2), fun i => by rw [aI_sI, g3, k3], by omega, by rw [fI_sI, if_pos ⟨rfl, rfl⟩], fun i hi => ?_⟩
  · rw [Mo_note, k1, bd_s, show (0 : Int32) = nI 0 from rfl, g1, bd_s, lt, g4, k4, nI_1]
  · rw [show psh n Ss (min n 5 + 1) S' i = shf n Ss i from if_neg (by omega)]
    by_cases e : i = min n 5
    · rw [e, hsn]
      refine hS.mv (hl n (Nat.le_refl n)) (fun j hj => ?_)
      rw [aI_sI, g5, if_pos (by omega), k3]
      congr 1
      omega
    · have hlen : (shf n Ss i).2.2.length ≤ 16 := by
        unfold shf
        by_cases e6 : n = 6
        · rw [if_pos e6]; exact hl (i + 1) (by omega)
        · rw [if_neg e6]; exact hl i (by omega)
      refine (k5 i (by omega)).mv hlen (fun j hj => ?_)
      rw [aI_sI, g5, if_neg (by omega)]
theorem mundo_s {V : Vx} (hM : MoSh T V) {n : Nat} {Ss : Nat → Snap} (h : PiAt V (n + 1) Ss) (hl : ∀ i, i ≤ n → (Ss i).2.2.length ≤ 16) :
    ∃ V', Mo_undo T V 166 = some (nI n, V') ∧ FrU V V' ∧ PiAt V' n Ss ∧ SnAt V' 170 0 (Ss n) := by
  obtain ⟨a1, a2, a3⟩ := h
  have hF := FrU.sI V (v := nI n)
  obtain ⟨V1, g1, g2, g3, g4, g5⟩ := undo22 (T := T) (u := n) (by omega) 19 FU 0 (sI V 907 166 (nI n)) (by omega) (by rw [← FU_big]; omega) (hM.fr hF.1) (by rw [fI_sI, if_pos ⟨rfl, rfl⟩])
  refine ⟨V1, ?_, hF.tr g2, ⟨by omega, g4, fun i hi => (a3 i (by omega)).mv (hl i (by omega)) (fun j hj => by rw [g3, aI_sI])⟩, (a3 n (by omega)).mv (hl n (by omega)) (fun j hj => by rw [g5, if_pos (by omega), aI_sI, Nat.zero_add])⟩
  rw [Mo_undo, a2, if_neg (nI_ne0 (by omega) (by omega)), lt, nI_pred]
  exact g1
theorem mundo_0 {V : Vx} {Ss : Nat → Snap} (h : PiAt V 0 Ss) : Mo_undo T V 166 = some (-2, V) := by
  rw [Mo_undo, h.2.1, if_pos nI_0]
theorem anew_s {V : Vx} (hM : MoSh T V) {lo : Bool} (h : aI V 168 166 = bi lo) (Ss : Nat → Snap) : ∃ V', Mo_anew T V 166 = some V' ∧ FrU V V' ∧ PiAt V' 0 Ss ∧ SnAt V' 170 0 (lo, 0, []) := by
  obtain ⟨V1, g1, g2, g3⟩ := anew2 (T := T) 19 FU 0 V (by omega) (by rw [← FU_big]; omega) hM (fun i hi => absurd hi (Nat.not_lt_zero i))
  have hM1 := hM.fr g2.1
  obtain ⟨-, ⟨c1, c2, c3⟩, -, ⟨b1, b2, b3⟩, -⟩ := hM1
  refine ⟨sI (wI V1 170 0 (bi lo)) 907 166 0, ?_, (g2.tr (FrU.wI V1 (Or.inl rfl))).tr (FrU.sI _), ⟨by omega, by rw [fI_sI, if_pos ⟨rfl, rfl⟩]; rfl, fun i hi => absurd hi (Nat.not_lt_zero i)⟩, ?_⟩
  · rw [Mo_anew, show Mo_anew_L2 T 166 FU V 0 = some V1 from g1, bd_s, b3, ck_s b1, bd_s, c3, ck_s c1, bd_s, show (166 : Int32) = nI 166 from rfl, c2, gd_s (inb_n (by omega) (by omega)), b2, gd_s (by decide), lt, cl_n (by omega), lt, g2.1.2.2.2.1 _ _ (by omega), h]
    rfl
  · refine ⟨by rw [aI_sI, aI_wI, if_pos ⟨rfl, rfl⟩], by rw [aI_sI, aI_wI, if_neg (fun z => by omega), g3 _ (by omega)]; rfl, by rw [aI_sI, aI_wI, if_neg (fun z => by omega), g3 _ (by omega)]; rfl, fun k hk => absurd hk (Nat.not_lt_zero k)⟩
end MN
