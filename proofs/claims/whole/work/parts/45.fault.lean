/-! ===== a whole text, by the class ===== -/
theorem fdF_in (l : List Nat) (c : Nat) : ∀ (d j e : Nat), fdF l c d j = some e → j ≤ e ∧ e < j + d ∧ ch l e = c ∧ ∀ i, j ≤ i → i < e → ch l i ≠ c := by
  intro d
  induction d with
  | zero => intro j e h; cases h
  | succ d ih =>
    intro j e h
    rw [fdF] at h
    by_cases e1 : ch l j = c
    · rw [if_pos e1] at h
      cases h
      exact ⟨Nat.le_refl _, by omega, e1, fun i i1 i2 => by omega⟩
    · rw [if_neg e1] at h
      obtain ⟨h1, h2, h3, h4⟩ := ih (j + 1) e h
      refine ⟨by omega, by omega, h3, fun i i1 i2 => ?_⟩
      by_cases ei : i = j
      · rw [ei]; exact e1
      · exact h4 i (by omega) i2
theorem fdF_eq (l : List Nat) (c : Nat) : ∀ (d j e : Nat), j ≤ e → e < j + d → ch l e = c → (∀ i, j ≤ i → i < e → ch l i ≠ c) → fdF l c d j = some e := by
  intro d
  induction d with
  | zero => intro j e h1 h2; omega
  | succ d ih =>
    intro j e h1 h2 h3 h4
    rw [fdF]
    by_cases ej : j = e
    · subst ej
      rw [if_pos h3]
    · rw [if_neg (h4 j (Nat.le_refl j) (by omega))]
      exact ih (j + 1) e (by omega) (by omega) h3 (fun i i1 i2 => h4 i (by omega) i2)
/-- where the first fault is, and the lexicon up to there -/
def pfF (t : List Nat) : Nat → Lex × Bool → Nat → Option Nat × (Lex × Bool)
  | 0, X, _ => (none, X)
  | n + 1, X, s => if t.length ≤ s then (none, X) else match fdF t 59 (t.length - s) s with
    | none => (some s, X)
    | some e => match itm X.1 X.2 t s e with
      | none => (some s, X)
      | some X' => pfF t n X' (e + 1)
section FA
variable {T : Tx} {L : Nat}
theorem ItOk.wrap {V : Vx} {X : Lex} {lo : Bool} {r : Option (Lex × Bool)} {o : Option (Int32 × Vx)} (h : ItOk T V L X lo r o) : ItOk T V L X lo r (bd2 o (fun r V => gd (zo r) (some (r, V)))) := by
  obtain ⟨V', h1, h2, h3⟩ := h
  refine ⟨V', ?_, h2, h3⟩
  rw [h1, bd2_s, gd_s (zo_bi _)]
theorem takesItem_s {V : Vx} {X : Lex} {lo : Bool} (hX : LexAt T V L X lo st0) (hL : 38 ≤ L) {t : List Nat} (ht : LetAt T V 1 2 200 t) {s e : Nat} (hs : s < t.length) (he : e ≤ t.length) : ItOk T V L X lo (itm X lo t s e) (Pa_takesItem T V 1 (nI s) (nI e) L) := by
  have h128 := gD_lt ht.2.2.2.2.2.2.2.2 (by decide) s
  rw [Pa_takesItem, Le_at_s ht s hs, bd_s, show (107 : Int32) = nI 107 from rfl, if_eqn (by omega) (by omega), show (109 : Int32) = nI 109 from rfl, if_eqn (by omega) (by omega), show (112 : Int32) = nI 112 from rfl, if_eqn (by omega) (by omega), show (115 : Int32) = nI 115 from rfl, if_eqn (by omega) (by omega), show (119 : Int32) = nI 119 from rfl, if_eqn (by omega) (by omega)]
  unfold itm
  by_cases e1 : ch t s = 107
  · rw [if_pos e1, if_pos e1]; exact (takesLaw_s hX ht hs he).wrap
  · rw [if_neg e1, if_neg e1]
    by_cases e2 : ch t s = 109
    · rw [if_pos e2, if_pos e2]; exact (takesMark_s hX hL ht hs he).wrap
    · rw [if_neg e2, if_neg e2]
      by_cases e3 : ch t s = 112
      · rw [if_pos e3, if_pos e3]; exact (takesPicture_s hX hL ht hs he).wrap
      · rw [if_neg e3, if_neg e3]
        by_cases e4 : ch t s = 115
        · rw [if_pos e4, if_pos e4]; exact (takesSound_s hX hL ht hs he).wrap
        · rw [if_neg e4, if_neg e4]
          by_cases e5 : ch t s = 119
          · rw [if_pos e5, if_pos e5]; exact (takesWord_s hX hL ht hs he).wrap
          · rw [if_neg e5, if_neg e5]; exact ItOk.no hX
theorem firstFault_l (hL : 38 ≤ L) {t : List Nat} : ∀ (n k s : Nat) (V : Vx) (X : Lex × Bool), t.length + 1 ≤ n + s → n ≤ k → s ≤ t.length → 0 < n → LexAt T V L X.1 X.2 st0 → LetAt T V 1 2 200 t →
    ∃ V', Pa_firstFault_L6 T 1 L k V (nI s) = some (oI (pfF t n X s).1, V') ∧ Fr (fun y => L ≤ y ∧ y < L + 63) V V' ∧ LexAt T V' L (pfF t n X s).2.1 (pfF t n X s).2.2 st0 := by
  intro n
  induction n with
  | zero => intro k s V X h1 h2 h3 h0; omega
  | succ n ih =>
    intro k s V X h1 h2 h3 h0 hX ht
    obtain ⟨k, rfl⟩ : ∃ m, k = m + 1 := ⟨k - 1, by omega⟩
    have h200 := ht.2.2.2.2.2.2.1
    rw [Pa_firstFault_L6, Le_size_s ht, bd_s, if_le (by omega) (by omega), pfF]
    by_cases e : t.length ≤ s
    · rw [if_pos e, if_pos e]
      exact ⟨V, rfl, Fr.rf, hX⟩
    · rw [if_neg e, if_neg e, show (59 : Int32) = nI 59 from rfl, Le_find_s ht 59 (by decide) s h3, bd_s]
      cases hf : fdF t 59 (t.length - s) s with
      | none =>
        refine ⟨V, ?_, Fr.rf, hX⟩
        rw [show oI none = (-4 : Int32) from rfl, if_pos (Int32.lt_of_lt_of_le (by decide) (nI_pos' (show s < 2 ^ 31 by omega)))]
        rfl
      | some e1 =>
        obtain ⟨f1, f2, f3, f4⟩ := fdF_in _ _ _ _ _ hf
        obtain ⟨V1, p1, p2, p3⟩ := takesItem_s hX hL ht (s := s) (e := e1) (by omega) (by omega)
        dsimp only
        rw [show oI (some e1) = nI e1 from rfl, if_ltn (by omega) (by omega), if_neg (by omega), p1, bd2_s, if_bi]
        cases hi : itm X.1 X.2 t s e1 with
        | none =>
          rw [hi] at p3
          exact ⟨V1, rfl, p2, p3⟩
        | some X' =>
          rw [hi] at p3
          obtain ⟨V2, q1, q2, q3⟩ := ih k (e1 + 1) V1 X' (by omega) (by omega) (by omega) (by omega) p3 (ht.fr p2 (by omega) (by omega))
          refine ⟨V2, ?_, p2.tr q2, q3⟩
          rw [Option.isSome_some, if_pos rfl, lt, nI_1]
          exact q1
end FA
