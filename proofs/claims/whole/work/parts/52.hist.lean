/-! ===== what can be undone, by both ===== -/
abbrev Snap : Type := Bool × Nat × List Nat
def SnAt (V : Vx) (a o : Nat) (S : Snap) : Prop := aI V a o = bi S.1 ∧ aI V a (o + 1) = nI S.2.1 ∧ aI V a (o + 2) = nI S.2.2.length ∧ ∀ k, k < S.2.2.length → aI V a (o + 3 + k) = nI (ch S.2.2 k)
def SnOk (X : Lex) (S : Snap) : Prop := S.2.1 < 2 ^ ns X ∧ S.2.2.length ≤ 16 ∧ ∀ k, k < S.2.2.length → ch S.2.2 k < ns X
def un (e : Nat × Nat) (S : Snap) : Snap := if e.1 = 0 then (S.1, S.2.1 ^^^ 2 ^ e.2, S.2.2) else if e.1 = 1 then (!S.1, S.2.1, S.2.2) else if e.1 = 2 then (S.1, S.2.1, S.2.2.dropLast) else (S.1, S.2.1, S.2.2 ++ [e.2])
def vl (X : Lex) (e : Nat × Nat) (S : Snap) : Prop := e.1 ≤ 3 ∧ e.2 < 100 ∧ (e.1 = 0 → e.2 < ns X) ∧ (e.1 = 2 → S.2.2 ≠ []) ∧ (e.1 = 3 → e.2 < ns X ∧ S.2.2.length < 16)
def shf {α : Type} (n : Nat) (f : Nat → α) : Nat → α := if n = 6 then fun i => f (i + 1) else f
def psh {α : Type} (n : Nat) (f : Nat → α) (k : Nat) (v : α) : Nat → α := fun i => if i = k then v else shf n f i
/-- the changes, and what was before each -/
def CHn (X : Lex) (n : Nat) (K : Nat → Nat × Nat) (Ss : Nat → Snap) (S : Snap) : Prop := n ≤ 6 ∧ Ss n = S ∧ (∀ i, i < n → Ss i = un (K i) (Ss (i + 1)) ∧ vl X (K i) (Ss (i + 1))) ∧ ∀ i, i ≤ n → SnOk X (Ss i)
theorem CHn.push {X : Lex} {n : Nat} {K : Nat → Nat × Nat} {Ss : Nat → Snap} {S : Snap} (h : CHn X n K Ss S) {e : Nat × Nat} {S' : Snap} (h1 : vl X e S') (h2 : un e S' = S) (h3 : SnOk X S') : CHn X (min n 5 + 1) (psh n K (min n 5) e) (psh n Ss (min n 5 + 1) S') S' := by
  obtain ⟨a1, a2, a3, a4⟩ := h
  have hsh : ∀ i, i ≤ min n 5 → ∃ j, j ≤ n ∧ shf n Ss i = Ss j ∧ shf n K i = K j ∧ (i = min n 5 → j = n) ∧ (i < min n 5 → j < n ∧ shf n Ss (i + 1) = Ss (j + 1)) := by
    intro i hi
    unfold shf
    by_cases e : n = 6
    · rw [if_pos e, if_pos e]
      exact ⟨i + 1, by omega, rfl, rfl, fun z => by omega, fun z => ⟨by omega, rfl⟩⟩
    · rw [if_neg e, if_neg e]
      exact ⟨i, by omega, rfl, rfl, fun z => by omega, fun z => ⟨by omega, rfl⟩⟩
  refine ⟨by omega, if_pos rfl, fun i hi => ?_, fun i hi => ?_⟩
  · obtain ⟨j, j1, j2, j3, j4, j5⟩ := hsh i (by omega)
    by_cases ei : i = min n 5
    · rw [show psh n K (min n 5) e i = e from if_pos ei, show psh n Ss (min n 5 + 1) S' i = shf n Ss i from if_neg (by omega), show psh n Ss (min n 5 + 1) S' (i + 1) = S' from if_pos (by omega), j2, j4 ei, a2]
      exact ⟨h2.symm, h1⟩
    · rw [show psh n K (min n 5) e i = shf n K i from if_neg ei, show psh n Ss (min n 5 + 1) S' i = shf n Ss i from if_neg (by omega), show psh n Ss (min n 5 + 1) S' (i + 1) = shf n Ss (i + 1) from if_neg (by omega), j2, j3, (j5 (by omega)).2]
      exact a3 j (j5 (by omega)).1
  · by_cases ei : i = min n 5 + 1
    · rw [show psh n Ss (min n 5 + 1) S' i = S' from if_pos ei]; exact h3
    · obtain ⟨j, j1, j2, -⟩ := hsh i (by omega)
      rw [show psh n Ss (min n 5 + 1) S' i = shf n Ss i from if_neg ei, j2]
      exact a4 j j1
theorem CHn.pop {X : Lex} {n : Nat} {K : Nat → Nat × Nat} {Ss : Nat → Snap} {S : Snap} (h : CHn X (n + 1) K Ss S) : CHn X n K Ss (un (K n) S) ∧ vl X (K n) S ∧ Ss n = un (K n) S := by
  obtain ⟨a1, a2, a3, a4⟩ := h
  have := a3 n (by omega)
  rw [a2] at this
  exact ⟨⟨by omega, this.1, fun i hi => a3 i (by omega), fun i hi => a4 i (by omega)⟩, this.2, this.1⟩
theorem CHn.new {X : Lex} {S : Snap} (h : SnOk X S) (K : Nat → Nat × Nat) : CHn X 0 K (fun _ => S) S := ⟨by omega, rfl, fun i hi => absurd hi (Nat.not_lt_zero i), fun _ _ => h⟩
section HC
variable {T : Tx}
def HiSh (T : Tx) (V : Vx) : Prop := kd T 7 = 0 ∧ kd T 8 = 11 ∧ ln T 8 = 6 ∧ kd T 9 = 11 ∧ ln T 9 = 6 ∧ fR V 0 7 = some 8 ∧ fR V 1 7 = some 9
def HiAt (T : Tx) (V : Vx) (n : Nat) (K : Nat → Nat × Nat) : Prop := HiSh T V ∧ n ≤ 6 ∧ fI V 2 7 = nI n ∧ ∀ i, i < n → aI V 8 i = nI (K i).1 ∧ aI V 9 i = nI (K i).2
theorem HiSh.fr {V V' : Vx} {P : Nat → Prop} (h : HiSh T V) (hF : Fr P V V') : HiSh T V' := by
  obtain ⟨a1, a2, a3, a4, a5, a6, a7⟩ := h
  exact ⟨a1, a2, a3, a4, a5, by rw [hF.1]; exact a6, by rw [hF.1]; exact a7⟩
theorem HiAt.fr {V V' : Vx} {n : Nat} {K : Nat → Nat × Nat} {P : Nat → Prop} (h : HiAt T V n K) (hF : Fr P V V') (h7 : ¬ P 7) (h8 : ¬ P 8) (h9 : ¬ P 9) : HiAt T V' n K := by
  obtain ⟨a1, a2, a3, a4⟩ := h
  exact ⟨a1.fr hF, a2, by rw [hF.2.2.1 _ _ h7]; exact a3, fun i hi => by rw [hF.2.2.2.1 _ _ h8, hF.2.2.2.1 _ _ h9]; exact a4 i hi⟩
theorem forget_l : ∀ (d n k : Nat) (V : Vx), k + d = 6 → d < n → 1 ≤ k → HiSh T V → ∃ V', Hi_forgetOldest_L2 T 7 n V (nI k) = some V' ∧ Fr (fun y => 7 ≤ y ∧ y ≤ 9) V V' ∧ fI V' 2 7 = nI 5 ∧ ∀ i, (aI V' 8 i = if k ≤ i + 1 ∧ i + 1 < 6 then aI V 8 (i + 1) else aI V 8 i) ∧ (aI V' 9 i = if k ≤ i + 1 ∧ i + 1 < 6 then aI V 9 (i + 1) else aI V 9 i) := by
  intro d
  induction d with
  | zero =>
    intro n k V hk hn h1 hS
    obtain ⟨n, rfl⟩ : ∃ m, n = m + 1 := ⟨n - 1, by omega⟩
    refine ⟨sI V 2 7 5, ?_, Fr.sI _ _ _ _ (by omega), by rw [fI_sI, if_pos ⟨rfl, rfl⟩]; rfl, fun i => ?_⟩
    · rw [Hi_forgetOldest_L2, show (6 : Int32) = nI 6 from rfl, if_le (by omega) (by omega), if_pos (by omega), lt]
    · rw [aI_sI, aI_sI, if_neg (by omega), if_neg (by omega)]
      exact ⟨rfl, rfl⟩
  | succ d ih =>
    intro n k V hk hn h1 hS
    obtain ⟨n, rfl⟩ : ∃ m, n = m + 1 := ⟨n - 1, by omega⟩
    have hS' := hS
    obtain ⟨a1, a2, a3, a4, a5, a6, a7⟩ := hS'
    have hp : nI k - 1 = nI (k - 1) := by
      have := nI_pred (k - 1)
      rw [show k - 1 + 1 = k by omega] at this
      exact this
    obtain ⟨V1, hV1⟩ : ∃ V1, V1 = wI (wI V 8 (k - 1) (aI V 8 k)) 9 (k - 1) (aI V 9 k) := ⟨_, rfl⟩
    have hF : Fr (fun y => 7 ≤ y ∧ y ≤ 9) V V1 := by
      rw [hV1]
      exact (Fr.wI (P := fun y => 7 ≤ y ∧ y ≤ 9) _ _ _ _ (by omega)).tr (Fr.wI _ _ _ _ (by omega))
    obtain ⟨V', g1, g2, g3, g4⟩ := ih n (k + 1) V1 (by omega) (by omega) (by omega) (hS.fr hF)
    have b8 : ∀ i, aI V1 8 i = if i = k - 1 then aI V 8 k else aI V 8 i := by
      intro i
      rw [hV1, aI_wI, if_neg (fun z => absurd z.1 (by decide)), aI_wI]
      by_cases e : i = k - 1
      · rw [if_pos ⟨rfl, e⟩, if_pos e]
      · rw [if_neg (fun z => e z.2), if_neg e]
    have b9 : ∀ i, aI V1 9 i = if i = k - 1 then aI V 9 k else aI V 9 i := by
      intro i
      rw [hV1, aI_wI]
      by_cases e : i = k - 1
      · rw [if_pos ⟨rfl, e⟩, if_pos e]
      · rw [if_neg (fun z => e z.2), if_neg e, aI_wI, if_neg (fun z => absurd z.1 (by decide))]
    refine ⟨V', ?_, hF.tr g2, g3, fun i => ?_⟩
    · rw [Hi_forgetOldest_L2, show (6 : Int32) = nI 6 from rfl, if_le (by omega) (by omega), if_neg (by omega), a6, ck_s a2, bd_s, bd_s, a3, gd_s (inb_n (by omega) (by omega)), hp, gd_s (inb_n (by omega) (by omega)), lt, cl_n (by omega), cl_n (by omega), fR_wI, a7, ck_s a4, bd_s, bd_s, a5, gd_s (inb_n (by omega) (by omega)), gd_s (inb_n (by omega) (by omega)), lt, aI_wI, if_neg (fun z => absurd z.1 (by decide)), ← hV1, nI_1]
      exact g1
    · rw [(g4 i).1, (g4 i).2, b8, b8, b9, b9]
      by_cases e : k ≤ i + 1 ∧ i + 1 < 6
      · rw [if_pos e, if_pos e]
        by_cases e2 : i = k - 1
        · rw [if_neg (show ¬ (k + 1 ≤ i + 1 ∧ i + 1 < 6) by omega), if_pos e2, show i + 1 = k by omega, if_neg (show ¬ (k + 1 ≤ k ∧ k < 6) by omega), if_pos e2]
          exact ⟨rfl, rfl⟩
        · rw [if_pos (show k + 1 ≤ i + 1 ∧ i + 1 < 6 by omega), if_neg (show ¬ i + 1 = k - 1 by omega), if_pos (show k + 1 ≤ i + 1 ∧ i + 1 < 6 by omega), if_neg (show ¬ i + 1 = k - 1 by omega)]
          exact ⟨rfl, rfl⟩
      · rw [if_neg e, if_neg e, if_neg (show ¬ (k + 1 ≤ i + 1 ∧ i + 1 < 6) by omega), if_neg (show ¬ i = k - 1 by omega), if_neg (show ¬ (k + 1 ≤ i + 1 ∧ i + 1 < 6) by omega), if_neg (show ¬ i = k - 1 by omega)]
        exact ⟨rfl, rfl⟩
theorem push_s {V : Vx} {n : Nat} {K : Nat → Nat × Nat} (h : HiAt T V n K) (k v : Nat) : ∃ V', Hi_push T V 7 (nI k) (nI v) = some V' ∧ Fr (fun y => 7 ≤ y ∧ y ≤ 9) V V' ∧ HiAt T V' (min n 5 + 1) (psh n K (min n 5) (k, v)) := by
  have key : ∃ V1, (if (fI V 2 7) < 6 then some V else bd (Hi_forgetOldest T V 7) (fun V7 => some V7)) = some V1 ∧ Fr (fun y => 7 ≤ y ∧ y ≤ 9) V V1 ∧ HiAt T V1 (min n 5) (shf n K) := by
    have h' := h
    obtain ⟨a1, a2, a3, a4⟩ := h'
    rw [a3, show (6 : Int32) = nI 6 from rfl, if_ltn (by omega) (by omega)]
    by_cases e : n < 6
    · refine ⟨V, if_pos e, Fr.rf, ?_⟩
      rw [show min n 5 = n by omega, show shf n K = K from if_neg (by omega)]
      exact h
    · have hn : n = 6 := by omega
      obtain ⟨V1, g1, g2, g3, g4⟩ := forget_l (T := T) 5 FU 1 V (by omega) (by rw [← FU_big]; omega) (by omega) a1
      refine ⟨V1, ?_, g2, a1.fr g2, by omega, by rw [g3, show min n 5 = 5 by omega], fun i hi => ?_⟩
      · rw [if_neg e, Hi_forgetOldest, show (1 : Int32) = nI 1 from rfl, g1, bd_s]
      · rw [(g4 i).1, (g4 i).2, if_pos (by omega), if_pos (by omega), show shf n K = fun i => K (i + 1) from if_pos hn]
        exact a4 (i + 1) (by omega)
  obtain ⟨V1, k1, k2, k3⟩ := key
  obtain ⟨a1, a2, a3, a4⟩ := k3
  have a1' := a1
  obtain ⟨c1, c2, c3, c4, c5, c6, c7⟩ := a1'
  obtain ⟨V2, hV2⟩ : ∃ V2, V2 = sI (wI (wI V1 8 (min n 5) (nI k)) 9 (min n 5) (nI v)) 2 7 (nI (min n 5 + 1)) := ⟨_, rfl⟩
  have hF : Fr (fun y => 7 ≤ y ∧ y ≤ 9) V1 V2 := by
    rw [hV2]
    exact ((Fr.wI (P := fun y => 7 ≤ y ∧ y ≤ 9) _ _ _ _ (by omega)).tr (Fr.wI _ _ _ _ (by omega))).tr (Fr.sI _ _ _ _ (by omega))
  refine ⟨V2, ?_, k2.tr hF, a1.fr hF, by omega, by rw [hV2, fI_sI, if_pos ⟨rfl, rfl⟩], fun i hi => ?_⟩
  · rw [Hi_push, k1, bd_s, a3, if_neg (n_lt (by omega)), show (6 : Int32) = nI 6 from rfl, if_le (by omega) (by omega), if_neg (by omega), c6, ck_s c2, bd_s, c3, gd_s (inb_n (by omega) (by omega)), lt, cl_n (by omega), fR_wI, c7, ck_s c4, bd_s, fI_wI, a3, c5, gd_s (inb_n (by omega) (by omega)), lt, cl_n (by omega), lt, fI_wI, fI_wI, a3, nI_1, ← hV2]
  · rw [hV2, aI_sI, aI_sI, aI_wI, if_neg (fun z => absurd z.1 (by decide)), aI_wI, aI_wI]
    by_cases e : i = min n 5
    · rw [if_pos ⟨rfl, e⟩, if_pos ⟨rfl, e⟩, show psh n K (min n 5) (k, v) i = (k, v) from if_pos e]
      exact ⟨rfl, rfl⟩
    · rw [if_neg (fun z => e z.2), if_neg (fun z => e z.2), aI_wI, if_neg (fun z => absurd z.1 (by decide)), show psh n K (min n 5) (k, v) i = shf n K i from if_neg e]
      exact a4 i (by omega)
end HC
