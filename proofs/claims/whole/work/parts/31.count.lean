/-! ===== the scribe: rows settled, writings counted ===== -/
def ScOk (T : Tx) (V : Vx) (X : Lex) (lo : Bool) (st : Nat → Bool) : Prop := ScSh T V ∧ (fI V 505 10 = 0 ∨ (fI V 505 10 = 1 ∧ ∀ w, w < nw X → RowAt T V (16 + 2 * w) (17 + 2 * w) 8 (lsW X lo st w)))
section SE
variable {T : Tx} {L : Nat} {X : Lex} {lo : Bool} {st : Nat → Bool}
theorem rowOf_s {V : Vx} (hS : ScSh T V) {w : Nat} (hw : w < 8) : Sc_rowOf T V 10 (nI w) = some (some (16 + 2 * w)) := by
  obtain ⟨a1, a2, a3, a4, a5, a6, a7, a8, a9, a10, a11, b1, b2, b3, b4, b5, b6⟩ := hS
  obtain ⟨c1, c2⟩ := b6 w hw
  rw [Sc_rowOf, if_neg (n_lt (by omega)), show (8 : Int32) = nI 8 from rfl, if_le (by omega) (by omega), if_neg (by omega), b1, ck_s a2, bd_s, a3, gd_s (inb_n (by omega) (by omega)), cl_n (by omega), c1, ck_s c2.1, bd_s]
set_option maxHeartbeats 1000000 in
theorem settle_l (hL40 : 38 ≤ L) : ∀ (d n w : Nat) (V : Vx), w + d = 8 → d < n → LexAt T V L X lo st → ScSh T V → (∀ v, v < w → v < nw X → RowAt T V (16 + 2 * v) (17 + 2 * v) 8 (lsW X lo st v)) →
    ∃ V', Sc_settle_L10 T 10 L n V (nI w) = some V' ∧ Fr (fun y => 10 ≤ y ∧ y ≤ 31) V V' ∧ fI V' 505 10 = 1 ∧ ∀ v, v < nw X → RowAt T V' (16 + 2 * v) (17 + 2 * v) 8 (lsW X lo st v) := by
  intro d
  induction d with
  | zero =>
    intro n w V hd hn hX hS hv
    obtain ⟨n, rfl⟩ : ∃ m, n = m + 1 := ⟨n - 1, by omega⟩
    have n8 := hX.2.1.2.1
    have hF : Fr (fun y => y = 10) V (sI V 505 10 1) := Fr.sI _ _ _ _ rfl
    refine ⟨sI V 505 10 1, ?_, hF.mo (fun y h => by omega), by rw [fI_sI, if_pos ⟨rfl, rfl⟩], fun v hv2 => (hv v (by omega) hv2).fr hF (by omega) (by omega)⟩
    rw [Sc_settle_L10.eq_def]
    dsimp only
    rw [show (8 : Int32) = nI 8 from rfl, if_le (by omega) (by omega), if_pos (by omega), lt]
  | succ d ih =>
    intro n w V hd hn hX hS hv
    obtain ⟨n, rfl⟩ : ∃ m, n = m + 1 := ⟨n - 1, by omega⟩
    have n8 := hX.2.1.2.1
    rw [Sc_settle_L10.eq_def]
    dsimp only
    rw [show (8 : Int32) = nI 8 from rfl, if_le (by omega) (by omega), if_neg (by omega), nI_1]
    by_cases ew : w < nw X
    · obtain ⟨a1, a2, a3, a4, a5, a6, a7, a8, a9, a10, a11, b1, b2, b3, b4, b5, b6⟩ := id hS
      obtain ⟨c1, c2⟩ := b6 w (by omega)
      obtain ⟨k1, k2, k3, f1, f4⟩ := hX.wrd ew
      obtain ⟨V1, p1, p2, p3⟩ := findLeast_s (T := T) ew (a := 16 + 2 * w) (r := 17 + 2 * w) hL40 ⟨by omega, by omega, by omega, by omega⟩ hX hS c2
      obtain ⟨V2, q1, q2, q3, q4⟩ := ih n (w + 1) V1 (by omega) (by omega) (hX.fr p2 (fun y y1 y2 => by omega)) (hS.fr p2) (fun v v1 v2 => by
        by_cases e : v = w
        · rw [e]; exact p3
        · exact (hv v (by omega) v2).fr p2 (by omega) (by omega))
      refine ⟨V2, ?_, (p2.mo fun y h => by omega).tr q2, q3, q4⟩
      rw [wordAt_s hX ew, bd_s]
      dsimp only
      rw [b1, ck_s a2, bd_s, a3, gd_s (inb_n (by omega) (by omega)), cl_n (by omega), c1, ck_s c2.1, bd_s, ck_s k1, bd_s, p1, bd_s]
      exact q1
    · obtain ⟨V2, q1, q2, q3, q4⟩ := ih n (w + 1) V (by omega) (by omega) hX hS (fun v v1 v2 => hv v (by omega) v2)
      refine ⟨V2, ?_, q2, q3, q4⟩
      rw [wordAt_n hX (Or.inr (nI_le (by omega) (by omega))), bd_s]
      exact q1
theorem settle_s (hL40 : 38 ≤ L) {V : Vx} (hX : LexAt T V L X lo st) (hS : ScOk T V X lo st) :
    ∃ V', Sc_settle T V 10 L = some V' ∧ Fr (fun y => 10 ≤ y ∧ y ≤ 31) V V' ∧ ScSh T V' ∧ fI V' 505 10 = 1 ∧ ∀ v, v < nw X → RowAt T V' (16 + 2 * v) (17 + 2 * v) 8 (lsW X lo st v) := by
  rw [Sc_settle]
  rcases hS.2 with h | ⟨h1, h2⟩
  · rw [if_pos h]
    obtain ⟨V', p1, p2, p3, p4⟩ := settle_l (T := T) hL40 8 FU 0 V rfl (by rw [← FU_big]; omega) hX hS.1 (fun v hv => by omega)
    exact ⟨V', p1, p2, hS.1.fr p2, p3, p4⟩
  · rw [h1, if_neg (by decide)]
    exact ⟨V, rfl, Fr.rf, hS.1, h1, h2⟩
end SE
theorem smF_congr {f g : Nat → Nat} : ∀ (d j : Nat), (∀ i, j ≤ i → i < j + d → f i = g i) → smF f d j = smF g d j := by
  intro d
  induction d with
  | zero => intro j _; rfl
  | succ d ih => intro j h; rw [smF, smF, ih (j + 1) (fun i q1 q2 => h i (by omega) (by omega)), h j (Nat.le_refl j) (by omega)]
theorem smF_add (f g : Nat → Nat) : ∀ (d j : Nat), smF (fun i => f i + g i) d j = smF f d j + smF g d j := by
  intro d
  induction d with
  | zero => intro j; rfl
  | succ d ih => intro j; rw [smF, smF, smF, ih]; omega
theorem smF_mul (c : Nat) (f : Nat → Nat) : ∀ (d j : Nat), smF (fun i => c * f i) d j = c * smF f d j := by
  intro d
  induction d with
  | zero => intro j; rfl
  | succ d ih => intro j; rw [smF, smF, ih, Nat.mul_add]
theorem smF_zero {f : Nat → Nat} : ∀ (d j : Nat), (∀ i, j ≤ i → i < j + d → f i = 0) → smF f d j = 0 := by
  intro d
  induction d with
  | zero => intro j _; rfl
  | succ d ih => intro j h; rw [smF, ih (j + 1) (fun i q1 q2 => h i (by omega) (by omega)), h j (Nat.le_refl j) (by omega)]
theorem smF_last (f : Nat → Nat) : ∀ (d j : Nat), smF f (d + 1) j = smF f d j + f (j + d) := by
  intro d
  induction d with
  | zero => intro j; rw [smF, smF, smF, Nat.add_zero, Nat.add_zero, Nat.zero_add]
  | succ d ih => intro j; rw [smF, ih, smF, show j + 1 + d = j + (d + 1) by omega]; omega
theorem smF_sh (g : Nat → Nat) : ∀ (d j : Nat), smF g d (j + 1) = smF (fun i => g (i + 1)) d j := by
  intro d
  induction d with
  | zero => intro j; rfl
  | succ d ih => intro j; rw [smF, smF, ih]
theorem smF_swap (f : Nat → Nat → Nat) (d2 j2 : Nat) : ∀ (d j : Nat), smF (fun i => smF (fun k => f i k) d2 j2) d j = smF (fun k => smF (fun i => f i k) d j) d2 j2 := by
  intro d
  induction d with
  | zero => intro j; rw [smF, smF_zero]; intro i _ _; rfl
  | succ d ih =>
    intro j
    rw [smF, ih, ← smF_add]
    rfl
theorem smF_up (f : Nat → Nat) (k x : Nat) : ∀ (d j : Nat), j ≤ k → k < j + d → smF (va_up f k (f k + x)) d j = smF f d j + x := by
  intro d
  induction d with
  | zero => intro j h1 h2; omega
  | succ d ih =>
    intro j h1 h2
    rw [smF, smF]
    by_cases e : j = k
    · subst e
      rw [smF_congr (g := f) d (j + 1) (fun i q1 q2 => by unfold va_up; rw [if_neg (by omega)])]
      unfold va_up
      rw [if_pos rfl]
      omega
    · rw [ih (j + 1) (by omega) (by omega)]
      unfold va_up
      rw [if_neg e]
      omega
/-- how many rows of n signs go on from a place -/
def cnt (nx : Nat → Nat → Option Nat) (fin : Nat → Bool) (N : Nat) : Nat → Nat → Nat
  | 0, p => if fin p = true then 1 else 0
  | n + 1, p => smF (fun s => match nx s p with | none => 0 | some q => cnt nx fin N n q) N 0
def tt (nx : Nat → Nat → Option Nat) (fin : Nat → Bool) (N p : Nat) : Nat := smF (fun n => cnt nx fin N n p) 9 0
theorem cnt_0 {nx : Nat → Nat → Option Nat} {fin : Nat → Bool} {N K : Nat} (hnx : ∀ s p q, nx s p = some q → p < q ∧ q ≤ K) : ∀ (n p : Nat), p ≤ K → K < n + p → cnt nx fin N n p = 0 := by
  intro n
  induction n with
  | zero => intro p h h2; omega
  | succ n ih =>
    intro p h h2
    rw [cnt]
    apply smF_zero
    intro s _ _
    cases e : nx s p with
    | none => rfl
    | some q =>
      obtain ⟨k1, k2⟩ := hnx s p q e
      exact ih q k2 (by omega)
theorem tt_s {nx : Nat → Nat → Option Nat} {fin : Nat → Bool} {N K : Nat} (hnx : ∀ s p q, nx s p = some q → p < q ∧ q ≤ K) (hK : K ≤ 8) (p : Nat) : tt nx fin N p = (if fin p = true then 1 else 0) + smF (fun s => match nx s p with | none => 0 | some q => tt nx fin N q) N 0 := by
  unfold tt
  rw [smF, smF_sh]
  have h1 : (fun i => cnt nx fin N (i + 1) p) = fun i => smF (fun s => match nx s p with | none => 0 | some q => cnt nx fin N i q) N 0 := by
    funext i
    rw [cnt]
  rw [h1, smF_swap (fun i s => match nx s p with | none => 0 | some q => cnt nx fin N i q), cnt]
  congr 1
  apply smF_congr
  intro s _ _
  cases e : nx s p with
  | none => exact smF_zero _ _ (fun _ _ _ => rfl)
  | some q =>
    obtain ⟨k1, k2⟩ := hnx s p q e
    dsimp only
    rw [smF_last _ 8 0, cnt_0 hnx (0 + 8) q k2 (by omega)]
    rfl
theorem lcmp0 {a : Nat} (ha : a < 2 ^ 31) {α : Type} (x y : α) : (if lg_cmp (lN a) 0 ≤ 0 then x else y) = if a = 0 then x else y := by
  unfold lg_cmp
  have h1 : (0 : Int64) < lN a ↔ 0 < a := lN_lt (by decide) ha
  by_cases e : a = 0
  · subst e
    rfl
  · rw [if_pos (show lN a > 0 from h1.mpr (by omega)), if_neg e]
    rfl
section RS
variable {T : Tx} {L : Nat} {X : Lex} {lo : Bool} {st : Nat → Bool} {w : Nat}
def ttW (X : Lex) (lo : Bool) (st : Nat → Bool) (w : Nat) : Nat → Nat := tt (nxW X lo st w) (fnW X lo w) (ns X)
def tS (X : Lex) (lo : Bool) (st : Nat → Bool) (w p s : Nat) : Nat := match nxW X lo st w s p with | none => 0 | some q => ttW X lo st w q
set_option maxHeartbeats 1000000 in
theorem ways_l (hw : w < nw X) (hL40 : 38 ≤ L) {p : Nat} (hp : p ≤ (wl X w).length) (x : Int64) : ∀ (d n s : Nat) (V : Vx) (W : Nat → Nat), s + d = ns X → d < n → LexAt T V L X lo st → ScSh T V → (∀ q, q ≤ 8 → aL V 15 q = lN (W q)) → W p < 2 ^ 31 →
    ∃ (V' : Vx) (W' : Nat → Nat), Sc_rowsOfSounds_L67 T 10 L (L + 39 + 3 * w) x (nI p) n V (nI s) = some V' ∧ Fr (fun y => y = 15) V V' ∧ (∀ f, fI V' f = fI V f) ∧ (∀ q, q ≤ 8 → aL V' 15 q = lN (W' q)) ∧ (∀ q, q ≤ p → W' q = W q) ∧ (∀ q, W' q ≤ W q + d * W p) ∧ smF (fun q => W' q * ttW X lo st w q) ((wl X w).length - p) (p + 1) = smF (fun q => W q * ttW X lo st w q) ((wl X w).length - p) (p + 1) + W p * smF (tS X lo st w p) d s := by
  intro d
  induction d with
  | zero =>
    intro n s V W hsd hn hX hS hA h31
    obtain ⟨n, rfl⟩ : ∃ m, n = m + 1 := ⟨n - 1, by omega⟩
    have n12 := hX.2.1.1
    refine ⟨V, W, ?_, Fr.rf, fun _ => rfl, hA, fun _ _ => rfl, fun q => by omega, by rw [smF.eq_1 (tS X lo st w p), Nat.mul_zero]; rfl⟩
    rw [Sc_rowsOfSounds_L67.eq_def]
    dsimp only
    rw [hX.2.2.1, if_le (by omega) (by omega), if_pos (by omega)]
  | succ d ih =>
    intro n s V W hsd hn hX hS hA h31
    obtain ⟨n, rfl⟩ : ∃ m, n = m + 1 := ⟨n - 1, by omega⟩
    have n12 := hX.2.1.1
    have hs : s < ns X := by omega
    obtain ⟨k1, k2, k3, f1, f2, f3, f4⟩ := hX.sgn hs
    obtain ⟨w1, w2, w3'⟩ := hX.2.1.2.2.2.1 w hw
    have hS' := hS
    obtain ⟨a1, a2, a3, a4, a5, a6, a7, a8, a9, a10, a11, b1, b2, b3, b4, b5, b6⟩ := hS'
    rw [Sc_rowsOfSounds_L67.eq_def]
    dsimp only
    rw [hX.2.2.1, if_le (by omega) (by omega), if_neg (by omega), b5, ck_s a10, bd_s, a11, gd_s (inb_n (by omega) (by omega)), cl_n (by omega), hA p (by omega), lcmp0 h31]
    by_cases e0 : W p = 0
    · rw [if_pos e0]
      exact ⟨V, W, rfl, Fr.rf, fun _ => rfl, hA, fun _ _ => rfl, fun q => by omega, by rw [e0, Nat.zero_mul]; rfl⟩
    · rw [if_neg e0, signAt_s hX hs, bd_s]
      dsimp only
      rw [ck_s k1, bd_s, placeBehind_s hX hw hs hp, bd_s, bd_s]
      cases e : pbS X lo st w s p with
      | none =>
        obtain ⟨V', W', g1, g2, g3, g4, g5, g6, g7⟩ := ih n (s + 1) V W (by omega) (by omega) hX hS hA h31
        refine ⟨V', W', ?_, g2, g3, g4, g5, fun q => Nat.le_trans (g6 q) (Nat.add_le_add_left (Nat.mul_le_mul_right _ (by omega)) _), ?_⟩
        · rw [show oI none = (-4 : Int32) from rfl, if_pos (by decide), nI_1]
          exact g1
        · rw [g7, smF.eq_2 (tS X lo st w p), show tS X lo st w p s = 0 by unfold tS nxW; rw [e], Nat.zero_add]
      | some q =>
        obtain ⟨z1, z2, z3, z4, z5, z6, z7⟩ := pbS_lt hX.2.1 e
        have hF : Fr (fun y => y = 15) V (wL V 15 q (lN (W q + W p))) := Fr.wL _ _ _ _ rfl
        obtain ⟨V', W', g1, g2, g3, g4, g5, g6, g7⟩ := ih n (s + 1) (wL V 15 q (lN (W q + W p))) (va_up W q (W q + W p)) (by omega) (by omega) (hX.fr hF (fun y y1 y2 => by omega)) (hS.fr hF) (fun q' hq' => by
          rw [aL_wL]
          unfold va_up
          by_cases e1 : q' = q
          · rw [if_pos ⟨rfl, e1⟩, if_pos e1]
          · rw [if_neg (fun y => e1 y.2), if_neg e1]; exact hA q' hq') (by unfold va_up; rw [if_neg (by omega)]; exact h31)
        have hWp : va_up W q (W q + W p) p = W p := by unfold va_up; rw [if_neg (by omega)]
        rw [hWp] at g6 g7
        refine ⟨V', W', ?_, hF.tr g2, fun f => by rw [g3]; rfl, g4, fun q' hq' => by rw [g5 q' hq']; unfold va_up; rw [if_neg (by omega)], fun q' => ?_, ?_⟩
        · rw [show oI (some q) = nI q from rfl, if_neg (n_lt (by omega)), show (8 : Int32) = nI 8 from rfl, if_ltn (by omega) (by omega), if_neg (by omega), bd_s, a11, gd_s (inb_n (by omega) (by omega)), bd_s, a11, gd_s (inb_n (by omega) (by omega)), gd_s (inb_n (by omega) (by omega)), lt, cl_n (by omega), hA q (by omega), hA p (by omega), lN_add, nI_1]
          exact g1
        · have := g6 q'
          have e3 : va_up W q (W q + W p) q' ≤ W q' + W p := by
            unfold va_up
            by_cases e1 : q' = q
            · rw [if_pos e1, e1]; exact Nat.le_refl _
            · rw [if_neg e1]; omega
          rw [Nat.succ_mul]
          omega
        · have e4 : (fun q' => va_up W q (W q + W p) q' * ttW X lo st w q') = va_up (fun q' => W q' * ttW X lo st w q') q (W q * ttW X lo st w q + W p * ttW X lo st w q) := by
            funext q'
            unfold va_up
            by_cases e1 : q' = q
            · rw [if_pos e1, if_pos e1, e1, Nat.add_mul]
            · rw [if_neg e1, if_neg e1]
          rw [g7, e4, smF_up (fun q' => W q' * ttW X lo st w q') q (W p * ttW X lo st w q) _ _ (by omega) (by omega), smF.eq_2 (tS X lo st w p), show tS X lo st w p s = ttW X lo st w q by unfold tS nxW; rw [e], Nat.mul_add]
          omega
set_option maxHeartbeats 1000000 in
theorem ways_p (hw : w < nw X) (hL40 : 38 ≤ L) : ∀ (d n p : Nat) (V : Vx) (W : Nat → Nat) (al : Nat), p + d = (wl X w).length + 1 → d < n → LexAt T V L X lo st → ScSh T V → (∀ q, q ≤ 8 → aL V 15 q = lN (W q)) → (∀ q, p ≤ q → W q ≤ 13 ^ p) →
    ∃ (V' : Vx), Sc_rowsOfSounds_L20 T 10 L (L + 39 + 3 * w) n V (lN al) (nI p) = some (lN (al + smF (fun q => W q * ttW X lo st w q) d p), V') ∧ Fr (fun y => y = 15) V V' ∧ (∀ f, fI V' f = fI V f) := by
  intro d
  induction d with
  | zero =>
    intro n p V W al hsd hn hX hS hA h31
    obtain ⟨n, rfl⟩ : ∃ m, n = m + 1 := ⟨n - 1, by omega⟩
    obtain ⟨k1, k2, k3, f1, f4⟩ := hX.wrd hw
    obtain ⟨w1, w2, w3'⟩ := hX.2.1.2.2.2.1 w hw
    refine ⟨V, ?_, Fr.rf, fun _ => rfl⟩
    rw [Sc_rowsOfSounds_L20.eq_def]
    dsimp only
    rw [k2, ck_s k3, bd_s, Le_size_s f4, bd_s, if_ltn (by omega) (by omega), if_pos (by omega)]
    rfl
  | succ d ih =>
    intro n p V W al hsd hn hX hS hA h31
    obtain ⟨n, rfl⟩ : ∃ m, n = m + 1 := ⟨n - 1, by omega⟩
    obtain ⟨k1, k2, k3, f1, f4⟩ := hX.wrd hw
    obtain ⟨w1, w2, w3'⟩ := hX.2.1.2.2.2.1 w hw
    have n12 := hX.2.1.1
    have hp : p ≤ (wl X w).length := by omega
    have hS' := hS
    obtain ⟨a1, a2, a3, a4, a5, a6, a7, a8, a9, a10, a11, b1, b2, b3, b4, b5, b6⟩ := hS'
    have hp13 : 13 ^ p ≤ 13 ^ 8 := Nat.pow_le_pow_right (by decide) (by omega)
    have hWp := h31 p (Nat.le_refl p)
    have h31' : W p < 2 ^ 31 := Nat.lt_of_le_of_lt (Nat.le_trans hWp hp13) (by decide)
    have hx : (if nI p ≤ 0 then some (lN al) else bd (Lx_mayEndAt T V L (L + 39 + 3 * w) (nI p)) (fun r34 => (if r34 = 0 then some (lN al) else bd (ck T 12 (fR V 504 10)) (fun r36 => gd (inb (nI p) (ln T r36)) (lt (lN al + (aL V r36 (nI p).toNatClampNeg) : Int64) (fun x41 => some x41)))))) = some (lN (al + (if fnW X lo w p = true then W p else 0))) := by
      rw [mayEndAt_s hX hw hp, bd_s, if_bi, show (0 : Int32) = nI 0 from rfl, if_le (by omega) (by omega), b5, ck_s a10, bd_s, a11, gd_s (inb_n (by omega) (by omega)), lt, cl_n (by omega), hA p (by omega), lN_add]
      unfold fnW
      by_cases e : p ≤ 0
      · rw [if_pos e, show decide (0 < p) = false by simp; omega]; rfl
      · rw [if_neg e, show decide (0 < p) = true by simp; omega, Bool.true_and]
        cases me lo (wl X w) p <;> rfl
    obtain ⟨V1, W1, g1, g2, g3, g4, g5, g6, g7⟩ := ways_l (T := T) (L := L) (X := X) (lo := lo) (st := st) (w := w) hw hL40 hp (lN (al + (if fnW X lo w p = true then W p else 0))) (ns X) FU 0 V W (by omega) (by rw [← FU_big]; omega) hX hS hA h31'
    obtain ⟨V2, r1, r2, r3⟩ := ih n (p + 1) V1 W1 (al + (if fnW X lo w p = true then W p else 0)) (by omega) (by omega) (hX.fr g2 (fun y y1 y2 => by omega)) (hS.fr g2) g4 (fun q hq => by
      have h1 := g6 q
      have h2 := h31 q (by omega)
      have h3 : ns X * W p ≤ 12 * 13 ^ p := Nat.mul_le_mul n12 hWp
      rw [Nat.pow_succ]
      omega)
    refine ⟨V2, ?_, g2.tr r2, fun f => by rw [r3, g3]⟩
    rw [Sc_rowsOfSounds_L20.eq_def]
    dsimp only
    rw [k2, ck_s k3, bd_s, Le_size_s f4, bd_s, if_ltn (by omega) (by omega), if_neg (by omega), show (8 : Int32) = nI 8 from rfl, if_ltn (by omega) (by omega), if_neg (by omega), hx, bd_s, show Sc_rowsOfSounds_L67 T 10 L (L + 39 + 3 * w) (lN (al + (if fnW X lo w p = true then W p else 0))) (nI p) FU V 0 = some V1 from g1, bd_s, nI_1, r1]
    have hd : d = (wl X w).length - p := by omega
    rw [hd, g7, smF.eq_2 (fun q => W q * ttW X lo st w q)]
    have ht : ttW X lo st w p = (if fnW X lo w p = true then 1 else 0) + smF (tS X lo st w p) (ns X) 0 := tt_s (nxW_lt hX.2.1) w3' p
    have hm : W p * ttW X lo st w p = (if fnW X lo w p = true then W p else 0) + W p * smF (tS X lo st w p) (ns X) 0 := by
      rw [ht, Nat.mul_add]
      by_cases e : fnW X lo w p = true
      · rw [if_pos e, if_pos e, Nat.mul_one]
      · rw [if_neg e, if_neg e, Nat.mul_zero]
    try dsimp only
    rw [hm]
    congr 3
    omega
theorem rowsOfSounds_s (hw : w < nw X) (hL40 : 38 ≤ L) {V : Vx} (hX : LexAt T V L X lo st) (hS : ScSh T V) :
    ∃ (V' : Vx), Sc_rowsOfSounds T V 10 L (L + 39 + 3 * w) = some (lN (ttW X lo st w 0), V') ∧ Fr (fun y => y = 15) V V' ∧ (∀ f, fI V' f = fI V f) := by
  have hS' := hS
  obtain ⟨a1, a2, a3, a4, a5, a6, a7, a8, a9, a10, a11, b1, b2, b3, b4, b5, b6⟩ := hS'
  obtain ⟨w1, w2, w3'⟩ := hX.2.1.2.2.2.1 w hw
  obtain ⟨V1, p1, p2, p3, p4, p5⟩ := fillL_s (T := T) (V := V) (r := 15) (x := 0) (by omega)
  have hF : Fr (fun y => y = 15) V (wL V1 15 0 1) := p2.tr (Fr.wL _ _ _ _ rfl)
  obtain ⟨V2, r1, r2, r3⟩ := ways_p (T := T) (L := L) (X := X) (lo := lo) (st := st) (w := w) hw hL40 ((wl X w).length + 1) FU 0 (wL V1 15 0 1) (fun q => if q = 0 then 1 else 0) 0 (by omega) (by rw [← FU_big]; omega) (hX.fr hF (fun y y1 y2 => by omega)) (hS.fr hF) (fun q hq => by
    rw [aL_wL]
    by_cases e : q = 0
    · rw [if_pos ⟨rfl, e⟩, if_pos e]; rfl
    · rw [if_neg (fun y => e y.2), if_neg e, p4 q (by omega)]; rfl) (fun q hq => by
    by_cases e : q = 0
    · rw [if_pos e]; decide
    · rw [if_neg e]; decide)
  refine ⟨V2, ?_, hF.tr r2, fun f => by rw [r3]; show fI V1 f = fI V f; exact p3 f⟩
  rw [Sc_rowsOfSounds, b5, ck_s a10, bd_s, p1, bd_s, p2.1, b5, ck_s a10, bd_s, a11, gd_s (show inb 0 9 = true by decide), lt]
  have e0 : smF (fun q => (if q = 0 then 1 else 0) * ttW X lo st w q) ((wl X w).length + 1) 0 = ttW X lo st w 0 := by
    rw [smF, if_pos rfl, Nat.one_mul, smF_zero _ _ (fun i i1 i2 => by rw [if_neg (by omega), Nat.zero_mul])]
    rfl
  rw [e0, Nat.zero_add] at r1
  exact r1
end RS
