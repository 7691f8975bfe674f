/-! ===== the scribe: least writings ===== -/
def nxW (X : Lex) (lo : Bool) (st : Nat → Bool) (w : Nat) (s p : Nat) : Option Nat := pbS X lo st w s p
def ulW (X : Lex) (s : Nat) : Nat := (su X s).length
def fnW (X : Lex) (lo : Bool) (w p : Nat) : Bool := decide (0 < p) && me lo (wl X w) p
def mW (X : Lex) (lo : Bool) (st : Nat → Bool) (w : Nat) : Nat → Nat → Option Nat := mst (nxW X lo st w) (ulW X) (fnW X lo w) (ns X)
/-- of how many signs the least writing is -/
def lfW (X : Lex) (lo : Bool) (st : Nat → Bool) (w : Nat) : Option Nat := fsF (fun n => (mW X lo st w n 0).isSome) 9 1
def lsW (X : Lex) (lo : Bool) (st : Nat → Bool) (w : Nat) : List Nat := match lfW X lo st w with
  | none => []
  | some n => lst (nxW X lo st w) (ulW X) (fnW X lo w) (ns X) n 0
theorem sk_out {X : Lex} {s : Nat} (h : ns X ≤ s) : sk X s = 2 := by
  unfold sk
  rw [List.getD_eq_getElem?_getD, List.getElem?_eq_none h]
  rfl
theorem pbS_lt {X : Lex} (hX : WFX X) {lo : Bool} {st : Nat → Bool} {w s p q : Nat} (h : pbS X lo st w s p = some q) : s < ns X ∧ st s = false ∧ sk X s ≠ 2 ∧ 1 ≤ (su X s).length ∧ p < q ∧ p + (su X s).length ≤ q ∧ q ≤ (wl X w).length := by
  obtain ⟨q1, q2⟩ := pbS_le h
  unfold pbS at h
  by_cases e : (st s || decide (sk X s = 2)) = true
  · rw [if_pos e] at h; cases h
  · have e1 : st s = false := by
      cases e2 : st s
      · rfl
      · rw [e2] at e; exact absurd rfl e
    have e2 : sk X s ≠ 2 := fun z => e (by rw [e1, z]; rfl)
    have e3 : s < ns X := Nat.lt_of_not_le fun z => e2 (sk_out z)
    obtain ⟨s1, s2, s3, s4, s5⟩ := hX.2.2.1 s e3
    have := s4 e2
    exact ⟨e3, e1, e2, this, by omega, q1, q2⟩
theorem nxW_lt {X : Lex} (hX : WFX X) {lo : Bool} {st : Nat → Bool} {w : Nat} : ∀ s p q, nxW X lo st w s p = some q → p < q ∧ q ≤ (wl X w).length := by
  intro s p q h
  obtain ⟨-, -, -, -, h1, -, h2⟩ := pbS_lt hX h
  exact ⟨h1, h2⟩
theorem mst_told {nx : Nat → Nat → Option Nat} {ul : Nat → Nat} {fin : Nat → Bool} {N K : Nat} (hnx : ∀ s p q, nx s p = some q → p + ul s ≤ q ∧ q ≤ K) : ∀ (n p v : Nat), p ≤ K → mst nx ul fin N n p = some v → v + p ≤ K := by
  intro n
  induction n with
  | zero =>
    intro p v h h2
    rw [mst] at h2
    by_cases e : fin p = true
    · rw [if_pos e] at h2; cases h2; omega
    · rw [if_neg e] at h2; cases h2
  | succ n ih =>
    intro p v h h2
    obtain ⟨s, hs, h3⟩ := mst_in h2
    obtain ⟨q, t, g1, g2, g3⟩ := cdB_iff.mp h3
    obtain ⟨k1, k2⟩ := hnx s p q g1
    have := ih q t k2 g2
    omega
section SL
variable {T : Tx} {L : Nat} {X : Lex} {lo : Bool} {st : Nat → Bool} {w : Nat}
def TW (X : Lex) (lo : Bool) (st : Nat → Bool) (w p : Nat) (a : Nat × Nat × Option Nat) : Prop := TS (nxW X lo st w) (ulW X) (fnW X lo w) (ns X) p a
theorem TW_le (hX : WFX X) {q : Nat} (hq : q ≤ (wl X w).length) (h8 : (wl X w).length ≤ 8) {a : Nat × Nat × Option Nat} (h : TW X lo st w q a) : a.1 ≤ 1000 ∧ a.2.1 ≤ 100 := by
  by_cases e : a.1 < 1000
  · obtain ⟨h1, -⟩ := h.1 e
    have := mst_told (K := (wl X w).length) (fun s p q h => by obtain ⟨-, -, -, -, -, h1, h2⟩ := pbS_lt hX h; exact ⟨h1, h2⟩) _ _ _ hq h1
    omega
  · have := (h.2 e).1
    rw [this]
    exact ⟨Nat.le_refl _, by decide⟩
/-- the table from a place on -/
def TbOk (V : Vx) (X : Lex) (lo : Bool) (st : Nat → Bool) (w p : Nat) : Prop := ∃ tb : Nat → Nat × Nat × Option Nat, ∀ q, p ≤ q → q ≤ (wl X w).length → At3 V q (tb q) ∧ TW X lo st w q (tb q)
set_option maxHeartbeats 1000000 in
theorem weigh_s (hw : w < nw X) (hL40 : 38 ≤ L) {p : Nat} (hp : p ≤ (wl X w).length) {V : Vx} (hX : LexAt T V L X lo st) (hS : ScSh T V) (hT : TbOk V X lo st w (p + 1)) :
    ∃ V', Sc_weigh T V 10 L (L + 39 + 3 * w) (nI p) = some V' ∧ Fr (fun y => 12 ≤ y ∧ y ≤ 14) V V' ∧ (∀ f, fI V' f = fI V f) ∧ TbOk V' X lo st w p := by
  obtain ⟨w1, w2, w3'⟩ := hX.2.1.2.2.2.1 w hw
  obtain ⟨tb, htb⟩ := hT
  have n12 := hX.2.1.1
  have hS' := hS
  obtain ⟨a1, a2, a3, a4, a5, a6, a7, a8, a9, a10, a11, b1, b2, b3, b4, b5, b6⟩ := hS'
  have fin : ∀ V' a, At3 V' p a → TW X lo st w p a → (∀ b j, j ≠ p → aI V' b j = aI V b j) → TbOk V' X lo st w p := by
    intro V' a h1 h2 h3
    refine ⟨fun q => if q = p then a else tb q, fun q q1 q2 => ?_⟩
    dsimp only
    by_cases e : q = p
    · rw [if_pos e, e]; exact ⟨h1, h2⟩
    · rw [if_neg e]
      obtain ⟨g1, g2⟩ := htb q (by omega) q2
      exact ⟨g1.fr (h3 _ _ e) (h3 _ _ e) (h3 _ _ e), g2⟩
  have hlp : nI p < 2 ^ 31 ∨ True := Or.inr trivial
  have hx3 : (if nI p ≤ 0 then some 0 else bd (Lx_mayEndAt T V L (L + 39 + 3 * w) (nI p)) (fun r9 => (if r9 = 0 then some 0 else some 1))) = some (bi (fnW X lo w p)) := by
    rw [mayEndAt_s hX hw hp, bd_s, if_bi, show (0 : Int32) = nI 0 from rfl, if_le (by omega) (by omega)]
    unfold fnW
    by_cases e : p ≤ 0
    · rw [if_pos e, show decide (0 < p) = false by simp; omega]; rfl
    · rw [if_neg e, show decide (0 < p) = true by simp; omega, Bool.true_and]
      cases me lo (wl X w) p <;> rfl
  rw [Sc_weigh, if_neg (n_lt (by omega)), show (8 : Int32) = nI 8 from rfl, if_le (by omega) (by omega), if_pos (by omega), hx3, bd_s]
  cases ef : fnW X lo w p with
  | true =>
    obtain ⟨W, hW⟩ : ∃ W, W = (wI (wI (wI V 12 p (nI 0)) 13 p (nI 0)) 14 p (oI none)) := ⟨_, rfl⟩
    have h3 := w3 hS (show p ≤ 8 by omega) 0 0 (-4) (fun V35 => Sc_weigh_L67 T 10 L (L + 39 + 3 * w) (nI p) 1 FU V35 0)
    have hF : Fr (fun y => 12 ≤ y ∧ y ≤ 14) V W := by rw [hW]; exact w3_fr _ _ _
    have hend : Sc_weigh_L67 T 10 L (L + 39 + 3 * w) (nI p) 1 FU W 0 = some W := by
      have h202 : fI W 202 L = nI (ns X) := by rw [hF.2.2.1 _ _ (by omega)]; exact hX.2.2.1
      rw [← FU_big, Sc_weigh_L67.eq_def]
      dsimp only
      rw [h202, if_neg (show ¬ (1 : Int32) = 0 by decide)]
      by_cases e : nI (ns X) ≤ 0
      · rw [if_pos e]
      · rw [if_neg e]
    refine ⟨W, ?_, hF, fun f => by rw [hW]; rfl, fin W (0, 0, none) (by rw [hW]; exact w3_at (0, 0, none)) (TS_fin ef) (fun b j hj => by rw [hW]; exact w3_ne _ _ _ _ _ hj)⟩
    rw [hW] at hend
    have h4 := h3.trans hend
    rw [b2, ck_s a4] at h4
    rw [bi_t, b2, ck_s a4, bd_s, if_neg (show ¬ (1 : Int32) = 0 by decide), bd_s]
    rw [bd_s] at h4
    rw [hW]
    exact h4
  | false =>
    obtain ⟨W, hW⟩ : ∃ W, W = (wI (wI (wI V 12 p (nI 1000)) 13 p (nI 0)) 14 p (oI none)) := ⟨_, rfl⟩
    have h3 := w3 hS (show p ≤ 8 by omega) (nI 1000) 0 (-4) (fun V35 => Sc_weigh_L67 T 10 L (L + 39 + 3 * w) (nI p) 0 FU V35 0)
    have hF : Fr (fun y => 12 ≤ y ∧ y ≤ 14) V W := by rw [hW]; exact w3_fr _ _ _
    obtain ⟨V2, p1, p2, p3, p4, p5⟩ := weigh_l (T := T) (L := L) (X := X) (lo := lo) (st := st) (w := w) hw hL40 hp (F := fun q => (tb q).1) (To := fun q => (tb q).2.1) (fun q q1 q2 => TW_le hX.2.1 q2 w3' (htb q (by omega) q2).2) (ns X) FU 0 W (1000, 0, none) (by omega) (by rw [← FU_big]; omega) (hX.fr hF (fun y y1 y2 => by omega)) (hS.fr hF) (by rw [hW]; exact w3_at (1000, 0, none)) (Nat.le_refl _) (by decide) (fun q q1 q2 => by
      rw [hW, w3_ne _ _ _ _ _ (by omega), w3_ne _ _ _ _ _ (by omega)]
      obtain ⟨g1, g2⟩ := htb q (by omega) q2
      exact ⟨g1.1, g1.2.1⟩)
    have hTS : TW X lo st w p (wF (fun s => pbS X lo st w s p) (fun s => (su X s).length) (fun q => (tb q).1) (fun q => (tb q).2.1) (ns X) 0 (1000, 0, none)) := by
      have hwi : WI (nxW X lo st w) (ulW X) (fnW X lo w) (ns X) p tb 0 (1000, 0, none) := ⟨fun e => absurd e (by decide), fun _ => ⟨rfl, fun s' q h => by omega⟩⟩
      have := WI_fold (K := (wl X w).length) (nxW_lt hX.2.1) w3' (fun q q1 q2 => (htb q (by omega) q2).2) (ns X) 0 _ hwi
      rw [Nat.zero_add] at this
      exact WI_end (K := (wl X w).length) (nxW_lt hX.2.1) (fun q q1 q2 => (htb q (by omega) q2).2) ef this
    refine ⟨V2, ?_, hF.tr p2, fun f => by rw [p3, hW]; rfl, fin V2 _ p4 hTS (fun b j hj => by rw [p5 b j hj, hW]; exact w3_ne _ _ _ _ _ hj)⟩
    rw [hW] at p1
    have h4 := h3.trans p1
    rw [b2, ck_s a4, bd_s] at h4
    rw [bi_f, b2, ck_s a4, bd_s, if_pos rfl, bd_s]
    exact h4
theorem findLeast9 (hw : w < nw X) (hL40 : 38 ≤ L) (p3 : Nat) : ∀ (d n : Nat) (V : Vx), d ≤ (wl X w).length + 1 → d < n → LexAt T V L X lo st → ScSh T V → TbOk V X lo st w d →
    ∃ V', Sc_findLeast_L9 T 10 L (L + 39 + 3 * w) p3 n V (nI d - 1) = some V' ∧ Fr (fun y => 12 ≤ y ∧ y ≤ 14) V V' ∧ (∀ f, fI V' f = fI V f) ∧ TbOk V' X lo st w 0 := by
  intro d
  induction d with
  | zero =>
    intro n V hd hn hX hS hT
    obtain ⟨n, rfl⟩ : ∃ m, n = m + 1 := ⟨n - 1, by omega⟩
    refine ⟨V, ?_, Fr.rf, fun _ => rfl, hT⟩
    rw [Sc_findLeast_L9, if_pos (by decide)]
  | succ d ih =>
    intro n V hd hn hX hS hT
    obtain ⟨n, rfl⟩ : ∃ m, n = m + 1 := ⟨n - 1, by omega⟩
    obtain ⟨w1, w2, w3'⟩ := hX.2.1.2.2.2.1 w hw
    obtain ⟨V1, p1, p2, p4, p5⟩ := weigh_s (T := T) hw hL40 (p := d) (by omega) hX hS hT
    obtain ⟨V2, q1, q2, q4, q5⟩ := ih n V1 (by omega) (by omega) (hX.fr p2 (fun y y1 y2 => by omega)) (hS.fr p2) p5
    refine ⟨V2, ?_, p2.tr q2, fun f => by rw [q4, p4], q5⟩
    rw [Sc_findLeast_L9, nI_pred, if_neg (n_lt (by omega)), p1, bd_s, ← Int32.sub_eq_add_neg]
    exact q1
/-- the row behind a place, as the table tells it -/
def lsT (X : Lex) (lo : Bool) (st : Nat → Bool) (w p : Nat) (a : Nat × Nat × Option Nat) : List Nat := if a.1 < 1000 then lst (nxW X lo st w) (ulW X) (fnW X lo w) (ns X) a.1 p else []
set_option maxHeartbeats 1000000 in
theorem findLeast38 (hw : w < nw X) {a r : Nat} (hL40 : 38 ≤ L) (har : 14 < a ∧ 14 < r ∧ a < 38 ∧ r < 38) {tb : Nat → Nat × Nat × Option Nat} (htb : ∀ q, q ≤ (wl X w).length → TW X lo st w q (tb q)) : ∀ (d n p : Nat) (V : Vx) (l : List Nat), p ≤ (wl X w).length → d = (if (tb p).1 < 1000 then (tb p).1 else 0) → l.length + d ≤ 8 → d < n → LexAt T V L X lo st → ScSh T V → RowAt T V a r 8 l → (∀ q, q ≤ (wl X w).length → aI V 14 q = oI (tb q).2.2) →
    ∃ V', Sc_findLeast_L38 T 10 L (L + 39 + 3 * w) a n V (nI p) (nI l.length) = some V' ∧ Fr (fun y => y = a ∨ y = r) V V' ∧ RowAt T V' a r 8 (l ++ lsT X lo st w p (tb p)) := by
  intro d
  induction d with
  | zero =>
    intro n p V l hp hd hl hn hX hS hR h14
    obtain ⟨n, rfl⟩ : ∃ m, n = m + 1 := ⟨n - 1, by omega⟩
    obtain ⟨w1, w2, w3'⟩ := hX.2.1.2.2.2.1 w hw
    have hnone : (tb p).2.2 = none := by
      by_cases e : (tb p).1 < 1000
      · rw [if_pos e] at hd
        have := ((htb p hp).1 e).2.2
        rw [if_pos hd.symm] at this
        exact this
      · rw [((htb p hp).2 e).1]
    have hls : lsT X lo st w p (tb p) = [] := by
      unfold lsT
      by_cases e : (tb p).1 < 1000
      · rw [if_pos e] at hd
        rw [if_pos e, ← hd]
        rfl
      · rw [if_neg e]
    obtain ⟨a1, a2, a3, a4, a5, a6, a7, a8, a9, a10, a11, b1, b2, b3, b4, b5, b6⟩ := hS
    refine ⟨V, ?_, Fr.rf, by rw [hls, List.append_nil]; exact hR⟩
    rw [Sc_findLeast_L38.eq_def]
    dsimp only
    rw [show (8 : Int32) = nI 8 from rfl, if_le (by omega) (by omega)]
    by_cases e8 : 8 ≤ l.length
    · rw [if_pos e8]
    · rw [if_neg e8, if_neg (n_lt (by omega)), if_ltn (by omega) (by omega), if_neg (by omega), b4, ck_s a8, bd_s, a9, gd_s (inb_n (by omega) (by omega)), cl_n (by omega), h14 p hp, hnone, show oI none = (-4 : Int32) from rfl, signAt_n hX (Or.inl (by decide)), bd_s]
  | succ d ih =>
    intro n p V l hp hd hl hn hX hS hR h14
    obtain ⟨n, rfl⟩ : ∃ m, n = m + 1 := ⟨n - 1, by omega⟩
    obtain ⟨w1, w2, w3'⟩ := hX.2.1.2.2.2.1 w hw
    have n12 := hX.2.1.1
    have e : (tb p).1 < 1000 := by
      by_cases e : (tb p).1 < 1000
      · exact e
      · rw [if_neg e] at hd; omega
    rw [if_pos e] at hd
    obtain ⟨t1, t2, t3⟩ := (htb p hp).1 e
    rw [← hd] at t1 t2 t3
    obtain ⟨s, q, t, g1, g2, g3, g4, g5⟩ := mst_first t1
    rw [if_neg (by omega), Nat.add_sub_cancel, g1] at t3
    obtain ⟨q1, q2⟩ := nxW_lt hX.2.1 s p q g3
    obtain ⟨z1, z2, z3⟩ := TS_q (htb q q2) g4
    have hq : (tb q).1 = d := by
      apply Nat.le_antisymm z2
      apply Nat.le_of_not_lt
      intro y
      obtain ⟨y1, y2, y3⟩ := (htb q q2).1 z1
      obtain ⟨v', y4, y5⟩ := mst_ge (v := (tb q).2.1 + ulW X s) g2 (cdB_iff.mpr ⟨q, (tb q).2.1, g3, y1, rfl⟩)
      rw [t2 ((tb q).1 + 1) (by omega)] at y4
      cases y4
    have hls : lsT X lo st w p (tb p) = s :: lsT X lo st w q (tb q) := by
      unfold lsT
      rw [if_pos e, if_pos z1, ← hd, hq]
      exact lst_s t1 g1 g3
    obtain ⟨k1, k2, k3, f1, f2, f3, f4⟩ := hX.sgn g2
    obtain ⟨a1, a2, a3, a4, a5, a6, a7, a8, a9, a10, a11, b1, b2, b3, b4, b5, b6⟩ := id hS
    obtain ⟨V1, p1, p2, p3⟩ := Ro_put_s hR s (by omega) (by omega)
    have hX1 : LexAt T V1 L X lo st := hX.fr p2 (fun y y1 y2 => by omega)
    obtain ⟨V2, r1, r2, r3⟩ := ih n q V1 (l ++ [s]) q2 (by rw [if_pos z1]; exact hq.symm) (by rw [List.length_append, List.length_singleton]; omega) (by omega) hX1 (hS.fr p2) p3 (fun q' hq' => by rw [p2.2.2.2.1 _ _ (by omega)]; exact h14 q' hq')
    refine ⟨V2, ?_, p2.tr r2, by rw [hls]; rw [List.append_assoc] at r3; exact r3⟩
    rw [Sc_findLeast_L38.eq_def]
    dsimp only
    rw [show (8 : Int32) = nI 8 from rfl, if_le (by omega) (by omega), if_neg (by omega), if_neg (n_lt (by omega)), if_ltn (by omega) (by omega), if_neg (by omega), b4, ck_s a8, bd_s, a9, gd_s (inb_n (by omega) (by omega)), cl_n (by omega), h14 p hp, t3, show oI (some s) = nI s from rfl, signAt_s hX g2, bd_s]
    dsimp only
    rw [bd_s, a9, gd_s (inb_n (by omega) (by omega)), h14 p hp, t3, show oI (some s) = nI s from rfl, p1, bd_s, ck_s k1, bd_s, placeBehind_s hX1 hw g2 hp, bd_s, show pbS X lo st w s p = some q from g3, show oI (some q) = nI q from rfl, nI_1]
    rw [List.length_append, List.length_singleton] at r1
    exact r1
theorem lsT_0 (hX : WFX X) (hw : w < nw X) {a : Nat × Nat × Option Nat} (h : TW X lo st w 0 a) : lsT X lo st w 0 a = lsW X lo st w ∧ (a.1 < 1000 → a.1 ≤ 8) := by
  obtain ⟨w1, w2, w3'⟩ := hX.2.2.2.1 w hw
  unfold lsT lsW lfW
  by_cases e : a.1 < 1000
  · obtain ⟨h1, h2, h3⟩ := h.1 e
    have hl := mst_len (K := (wl X w).length) (nxW_lt hX) _ _ _ (Nat.zero_le _) h1
    have h0 : a.1 ≠ 0 := by
      intro z
      rw [z, mst] at h1
      unfold fnW at h1
      rw [if_neg (by simp)] at h1
      cases h1
    rw [if_pos e, fsF_eq _ _ _ a.1 (by omega) (by omega) (by show (mst _ _ _ _ _ _).isSome = true; rw [h1]; rfl) (fun i i1 i2 => by show (mst _ _ _ _ _ _).isSome = false; rw [h2 i i2]; rfl)]
    exact ⟨rfl, fun _ => by omega⟩
  · obtain ⟨h1, h2⟩ := h.2 e
    rw [if_neg e, fsF_none _ _ _ (fun i i1 i2 => by show (mst _ _ _ _ _ _).isSome = false; rw [h2 i]; rfl)]
    exact ⟨rfl, fun q => absurd q e⟩
set_option maxHeartbeats 1000000 in
theorem findLeast_s (hw : w < nw X) {a r : Nat} (hL40 : 38 ≤ L) (har : 14 < a ∧ 14 < r ∧ a < 38 ∧ r < 38) {V : Vx} (hX : LexAt T V L X lo st) (hS : ScSh T V) (hR : RowSh T V a r 8) :
    ∃ V', Sc_findLeast T V 10 L (L + 39 + 3 * w) a = some V' ∧ Fr (fun y => (12 ≤ y ∧ y ≤ 14) ∨ y = a ∨ y = r) V V' ∧ RowAt T V' a r 8 (lsW X lo st w) := by
  obtain ⟨w1, w2, w3'⟩ := hX.2.1.2.2.2.1 w hw
  obtain ⟨k1, k2, k3, f1, f4⟩ := hX.wrd hw
  obtain ⟨V1, p1, p2, p3, tb, p4⟩ := findLeast9 (T := T) hw hL40 a ((wl X w).length + 1) FU V (Nat.le_refl _) (by rw [← FU_big]; omega) hX hS ⟨fun _ => (0, 0, none), fun q q1 q2 => by omega⟩
  rw [nI_pred] at p1
  obtain ⟨V2, q1, q2, q3⟩ := Ro_clear_s (hR.fr p2)
  have hX1 := hX.fr p2 (fun y y1 y2 => by omega)
  have htb : ∀ q, q ≤ (wl X w).length → TW X lo st w q (tb q) := fun q hq => (p4 q (Nat.zero_le q) hq).2
  obtain ⟨c1, c2⟩ := lsT_0 hX.2.1 hw (htb 0 (Nat.zero_le _))
  obtain ⟨V3, r1, r2, r3⟩ := findLeast38 (T := T) hw hL40 har htb (if (tb 0).1 < 1000 then (tb 0).1 else 0) FU 0 V2 [] (Nat.zero_le _) rfl (by
    rw [List.length_nil]
    by_cases e : (tb 0).1 < 1000
    · rw [if_pos e]; have := c2 e; omega
    · rw [if_neg e]; omega) (by
    rw [← FU_big]
    by_cases e : (tb 0).1 < 1000
    · rw [if_pos e]; omega
    · rw [if_neg e]; omega) (hX1.fr q2 (fun y y1 y2 => by omega)) ((hS.fr p2).fr q2) q3 (fun q hq => by rw [q2.2.2.2.1 _ _ (by omega)]; exact (p4 q (Nat.zero_le q) hq).1.2.2)
  rw [List.nil_append, c1] at r3
  refine ⟨V3, ?_, ((p2.mo fun y h => Or.inl h).tr (q2.mo fun y h => Or.inr (Or.inl h))).tr (r2.mo fun y h => Or.inr h), r3⟩
  rw [Sc_findLeast, k2, ck_s k3, bd_s, Le_size_s f4, bd_s, p1, bd_s, q1, bd_s]
  exact r1
end SL
