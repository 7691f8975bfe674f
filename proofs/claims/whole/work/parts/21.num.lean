/-! ===== numbers, and the memory's laws ===== -/
theorem i_le (a b : Int32) : a ≤ b ↔ a.toInt ≤ b.toInt := Int32.le_iff_toInt_le
theorem i_lt (a b : Int32) : a < b ↔ a.toInt < b.toInt := Int32.lt_iff_toInt_lt
theorem i_eq (a b : Int32) : a = b ↔ a.toInt = b.toInt := ⟨fun h => by rw [h], Int32.toInt_inj.mp⟩
theorem n_lt {n : Nat} (h : n < 2 ^ 31) : ¬ nI n < 0 := nI_pos h
theorem n_lit (n : Nat) : (OfNat.ofNat n : Int32) = nI n := rfl
theorem fI_sI (V : Vx) (f a f' a' : Nat) (v : Int32) : fI (sI V f a v) f' a' = if f' = f ∧ a' = a then v else fI V f' a' := rfl
theorem fI_sR (V : Vx) (f a f' a' : Nat) (v : Option Nat) : fI (sR V f a v) f' a' = fI V f' a' := rfl
theorem fI_wI (V : Vx) (a i f' a' : Nat) (v : Int32) : fI (wI V a i v) f' a' = fI V f' a' := rfl
theorem fI_wL (V : Vx) (a i f' a' : Nat) (v : Int64) : fI (wL V a i v) f' a' = fI V f' a' := rfl
theorem fR_sI (V : Vx) (f a f' a' : Nat) (v : Int32) : fR (sI V f a v) f' a' = fR V f' a' := rfl
theorem fR_sR (V : Vx) (f a f' a' : Nat) (v : Option Nat) : fR (sR V f a v) f' a' = if f' = f ∧ a' = a then v else fR V f' a' := rfl
theorem fR_wI (V : Vx) (a i f' a' : Nat) (v : Int32) : fR (wI V a i v) f' a' = fR V f' a' := rfl
theorem fR_wL (V : Vx) (a i f' a' : Nat) (v : Int64) : fR (wL V a i v) f' a' = fR V f' a' := rfl
theorem aI_sI (V : Vx) (f a a' i' : Nat) (v : Int32) : aI (sI V f a v) a' i' = aI V a' i' := rfl
theorem aI_sR (V : Vx) (f a a' i' : Nat) (v : Option Nat) : aI (sR V f a v) a' i' = aI V a' i' := rfl
theorem aI_wI (V : Vx) (a i a' i' : Nat) (v : Int32) : aI (wI V a i v) a' i' = if a' = a ∧ i' = i then v else aI V a' i' := rfl
theorem aI_wL (V : Vx) (a i a' i' : Nat) (v : Int64) : aI (wL V a i v) a' i' = aI V a' i' := rfl
theorem aL_sI (V : Vx) (f a a' i' : Nat) (v : Int32) : aL (sI V f a v) a' i' = aL V a' i' := rfl
theorem aL_sR (V : Vx) (f a a' i' : Nat) (v : Option Nat) : aL (sR V f a v) a' i' = aL V a' i' := rfl
theorem aL_wI (V : Vx) (a i a' i' : Nat) (v : Int32) : aL (wI V a i v) a' i' = aL V a' i' := rfl
theorem aL_wL (V : Vx) (a i a' i' : Nat) (v : Int64) : aL (wL V a i v) a' i' = if a' = a ∧ i' = i then v else aL V a' i' := rfl
theorem aR_sI (V : Vx) (f a a' i' : Nat) (v : Int32) : aR (sI V f a v) a' i' = aR V a' i' := rfl
theorem aR_sR (V : Vx) (f a a' i' : Nat) (v : Option Nat) : aR (sR V f a v) a' i' = aR V a' i' := rfl
theorem aR_wI (V : Vx) (a i a' i' : Nat) (v : Int32) : aR (wI V a i v) a' i' = aR V a' i' := rfl
theorem aR_wL (V : Vx) (a i a' i' : Nat) (v : Int64) : aR (wL V a i v) a' i' = aR V a' i' := rfl
theorem inb_n {i n : Nat} (h : i < n) (hn : n < 2 ^ 31) : inb (nI i) n = true := inb_s (vp_in_nI h hn)
theorem cl_n {n : Nat} (h : n < 2 ^ 31) : (nI n).toNatClampNeg = n := nI_clamp h
theorem if_le {α : Type} {a b : Nat} (ha : a < 2 ^ 31) (hb : b < 2 ^ 31) (x y : α) : (if nI a ≤ nI b then x else y) = if a ≤ b then x else y := by
  by_cases h : a ≤ b
  · rw [if_pos h, if_pos ((nI_leI ha hb).mpr h)]
  · rw [if_neg h, if_neg (fun q => h ((nI_leI ha hb).mp q))]
theorem if_ltn {α : Type} {a b : Nat} (ha : a < 2 ^ 31) (hb : b < 2 ^ 31) (x y : α) : (if nI a < nI b then x else y) = if a < b then x else y := by
  by_cases h : a < b
  · rw [if_pos h, if_pos ((nI_ltI ha hb).mpr h)]
  · rw [if_neg h, if_neg (fun q => h ((nI_ltI ha hb).mp q))]
theorem if_eqn {α : Type} {a b : Nat} (ha : a < 2 ^ 31) (hb : b < 2 ^ 31) (x y : α) : (if nI a = nI b then x else y) = if a = b then x else y := by
  by_cases h : a = b
  · rw [if_pos h, if_pos ((nI_eq ha hb).mpr h)]
  · rw [if_neg h, if_neg (fun q => h ((nI_eq ha hb).mp q))]
/-- a bool as an int -/
def bi (c : Bool) : Int32 := if c = true then 1 else 0
theorem bi_t : bi true = 1 := rfl
theorem bi_f : bi false = 0 := rfl
theorem zo_bi (c : Bool) : zo (bi c) = true := by cases c <;> decide
theorem bi0 (c : Bool) : bi c = 0 ↔ c = false := by cases c <;> simp [bi]
theorem if_bi {α : Type} (c : Bool) (x y : α) : (if bi c = 0 then x else y) = if c = true then y else x := by cases c <;> simp [bi]
theorem FU_big : 100000 = FU := rfl
theorem nar_char {n : Nat} (h : n < 65536) : vp_nar .char (nI n) = nI n := by
  have h1 := (pk_charN h).1
  unfold vp_nar
  rw [h1]
theorem i2c_n {n : Nat} (h : n < 65536) : ((nI n).toUInt32 % 65536).toInt32 = nI n := by
  rw [pk_char, pk_tn (by omega), Nat.mod_eq_of_lt h]
theorem mx0 (x : Int32) : ¬ (if x < 0 then (0 : Int32) else x) < 0 := by
  by_cases h : x < 0
  · rw [if_pos h]; decide
  · rw [if_neg h]; exact h
/-! ===== Letters ===== -/
/-- the letter at a place, 0 where there is none -/
def ch (l : List Nat) (j : Nat) : Nat := l.getD j 0
def LetAt (T : Tx) (V : Vx) (a r cap : Nat) (l : List Nat) : Prop :=
  kd T a = 1 ∧ fR V 100 a = some r ∧ kd T r = 10 ∧ ln T r = cap ∧ cap < 1000 ∧ fI V 101 a = nI l.length ∧ l.length ≤ cap ∧ (∀ j, j < l.length → aI V r j = nI (ch l j)) ∧ ∀ x ∈ l, x < 128
theorem Le_size_s {T : Tx} {V : Vx} {a r cap : Nat} {l : List Nat} (h : LetAt T V a r cap l) : Le_size T V a = some (nI l.length) := by
  obtain ⟨ka, er, kr, lr, hc, es, hl, hj, hx⟩ := h
  rw [Le_size, es]
theorem Le_isFull_s {T : Tx} {V : Vx} {a r cap : Nat} {l : List Nat} (h : LetAt T V a r cap l) : Le_isFull T V a = some (bi (decide (cap ≤ l.length))) := by
  obtain ⟨ka, er, kr, lr, hc, es, hl, hj, hx⟩ := h
  rw [Le_isFull, es, er, ck_s kr, bd_s, lr]
  by_cases h : cap ≤ l.length
  · simp [h, bi, nI_ltI (show l.length < 2 ^ 31 by omega) (show cap < 2 ^ 31 by omega)]
  · simp [h, bi, nI_ltI (show l.length < 2 ^ 31 by omega) (show cap < 2 ^ 31 by omega)]
theorem Le_at_s {T : Tx} {V : Vx} {a r cap : Nat} {l : List Nat} (h : LetAt T V a r cap l) (j : Nat) (hj : j < l.length) : Le_at T V a (nI j) = some (nI (ch l j)) := by
  obtain ⟨ka, er, kr, lr, hc, es, hl, hjj, hx⟩ := h
  rw [Le_at, if_neg (n_lt (by omega)), es, if_le (by omega) (by omega), if_neg (by omega), er, ck_s kr, bd_s, bd_s, lr, if_le (by omega) (by omega), if_neg (by omega), gd_s (inb_n (by omega) (by omega)), cl_n (by omega), hjj j hj]
theorem Le_at_n {T : Tx} {V : Vx} {a r cap : Nat} {l : List Nat} (h : LetAt T V a r cap l) (x : Int32) (hx0 : x < 0 ∨ nI l.length ≤ x) : Le_at T V a x = some (-4) := by
  obtain ⟨ka, er, kr, lr, hc, es, hl, hjj, hx⟩ := h
  rw [Le_at]
  by_cases h0 : x < 0
  · rw [if_pos h0]
  · rw [if_neg h0, es, if_pos (hx0.resolve_left h0)]
