/-! ===== a text, by the Model ===== -/
section FB
variable {T : Tx} {L : Nat}
theorem Lx_clear_s {V : Vx} (h : LexSh T V L) : ∃ V', Lx_clear T V L = some V' ∧ Fr (fun y => y = L) V V' ∧ LexAt T V' L ([], []) false st0 := by
  have hF : Fr (fun y => y = L) V (sI (sI (sI V 202 L 0) 203 L 0) 204 L 0) := ((Fr.sI (P := fun y => y = L) _ _ _ _ rfl).tr (Fr.sI _ _ _ _ rfl)).tr (Fr.sI _ _ _ _ rfl)
  refine ⟨_, by rw [Lx_clear, lt, lt, lt], hF, LexAt.sh' h hF, ?_, ?_, ?_, ?_, fun s hs => absurd hs (Nat.not_lt_zero s), fun w hw => absurd hw (Nat.not_lt_zero w)⟩
  · exact ⟨by decide, by decide, fun s hs => absurd hs (Nat.not_lt_zero s), fun w hw => absurd hw (Nat.not_lt_zero w), fun w v hw => absurd hw (Nat.not_lt_zero w)⟩
  · rw [fI_sI, if_neg (fun z => absurd z.1 (by decide)), fI_sI, if_neg (fun z => absurd z.1 (by decide)), fI_sI, if_pos ⟨rfl, rfl⟩]; rfl
  · rw [fI_sI, if_neg (fun z => absurd z.1 (by decide)), fI_sI, if_pos ⟨rfl, rfl⟩]; rfl
  · rw [fI_sI, if_pos ⟨rfl, rfl⟩]; rfl
/-- the first fault of a text -/
def pf (t : List Nat) : Option Nat × (Lex × Bool) := pfF t (t.length + 1) (([], []), false) 0
theorem firstFault_s (hL : 38 ≤ L) {t : List Nat} {V : Vx} (h : LexSh T V L) (ht : LetAt T V 1 2 200 t) : ∃ V', Pa_firstFault T V 1 L = some (oI (pf t).1, V') ∧ Fr (fun y => L ≤ y ∧ y < L + 63) V V' ∧ LexAt T V' L (pf t).2.1 (pf t).2.2 st0 := by
  have h200 := ht.2.2.2.2.2.2.1
  obtain ⟨V1, p1, p2, p3⟩ := Lx_clear_s (T := T) h
  obtain ⟨V2, q1, q2, q3⟩ := firstFault_l hL (t := t) (t.length + 1) FU 0 V1 (([], []), false) (by omega) (by rw [← FU_big]; omega) (Nat.zero_le _) (by omega) p3 (ht.fr p2 (by omega) (by omega))
  refine ⟨V2, ?_, (p2.mo fun y h => by omega).tr q2, q3⟩
  rw [Pa_firstFault, p1, bd_s]
  exact q1
end FB
theorem lgc_lt (a b : Int64) {α : Type} (x y : α) : (if lg_cmp a b < 0 then x else y) = if a < b then x else y := by
  unfold lg_cmp
  by_cases e : a > b
  · rw [if_pos e, if_neg (by decide), if_neg (fun z => by
      rw [Int64.lt_iff_toInt_lt] at z
      have e' : b < a := e
      rw [Int64.lt_iff_toInt_lt] at e'
      omega)]
  · rw [if_neg e]
    by_cases e2 : a = b
    · rw [if_pos e2, if_neg (by decide), if_neg (fun z => by
        rw [e2, Int64.lt_iff_toInt_lt] at z
        omega)]
    · rw [if_neg e2, if_pos (by decide), if_pos (by
        rw [Int64.lt_iff_toInt_lt]
        have e' : ¬ b < a := e
        rw [Int64.lt_iff_toInt_lt] at e'
        have : a.toInt ≠ b.toInt := fun z => e2 (Int64.toInt_inj.mp z)
        omega)]
theorem lgc_gt (a b : Int64) {α : Type} (x y : α) : (if 0 < lg_cmp a b then x else y) = if b < a then x else y := by
  unfold lg_cmp
  by_cases e : a > b
  · rw [if_pos e, if_pos (by decide), if_pos e]
  · rw [if_neg e, if_neg (show ¬ b < a from e)]
    by_cases e2 : a = b
    · rw [if_pos e2, if_neg (by decide)]
    · rw [if_neg e2, if_neg (by decide)]
theorem i64_lt (x y : Int32) : x.toInt64 < y.toInt64 ↔ x < y := by
  rw [Int64.lt_iff_toInt_lt, Int32.lt_iff_toInt_lt, Int32.toInt_toInt64, Int32.toInt_toInt64]
theorem in_s (T : Tx) (V : Vx) (x y z : Int32) : Mo_in T V x.toInt64 y.toInt64 z.toInt64 = some (bi (!(decide (x < y)) && !(decide (z < x)))) := by
  rw [Mo_in, lgc_lt, lgc_gt]
  by_cases e : x < y
  · rw [if_pos ((i64_lt x y).mpr e), decide_eq_true e]; rfl
  · rw [if_neg (fun q => e ((i64_lt x y).mp q)), decide_eq_false e]
    by_cases e2 : z < x
    · rw [if_pos ((i64_lt z x).mpr e2), decide_eq_true e2]; rfl
    · rw [if_neg (fun q => e2 ((i64_lt z x).mp q)), decide_eq_false e2]; rfl
