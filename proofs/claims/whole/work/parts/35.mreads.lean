/-! ===== the Model: as which words a row is read ===== -/
theorem fsF_congr {f g : Nat → Bool} : ∀ (d j : Nat), (∀ i, j ≤ i → i < j + d → f i = g i) → fsF f d j = fsF g d j := by
  intro d
  induction d with
  | zero => intro j _; rfl
  | succ d ih => intro j h; rw [fsF, fsF, ih (j + 1) (fun i q1 q2 => h i (by omega) (by omega)), h j (Nat.le_refl j) (by omega)]
section MR
variable {T : Tx} {V : Vx} {X : Lex} {lo : Bool} {m : Nat}
/-- the word that a lone picture is -/
def cw (X : Lex) (lo : Bool) (st : Nat → Bool) (row : List Nat) (w : Nat) : Bool := wr X lo st w false 0 row && (decide (row.length = 1) && (decide (sk X (ch row 0) = 0) && (decide (sc X (ch row 0) = wc X w) && decide (wl X w = su X (ch row 0)))))
def cwR (X : Lex) (lo : Bool) (st : Nat → Bool) (row : List Nat) (o : Option Nat) : Nat := match o with
  | some v => 2 ^ v
  | none => mU (fun w => wr X lo st w false 0 row) (nw X)
set_option maxHeartbeats 1000000 in
theorem reads_l (h : MwAt T V X lo m) {a fr_ : Nat} {row : List Nat} (hr : SgAt V a fr_ X row) (hfr : fr_ + row.length ≤ ln T a) (hln : ln T a < 100) (hn9 : row.length ≤ 9) (h0 : row ≠ []) : ∀ (d n w : Nat), w + d = nw X → d < n → Mo_reads_L11 T V 166 a (nI fr_) (nI row.length) (nI (ch row 0)) n (nI (mU (fun w => wr X lo (stM m) w false 0 row) w)) (nI w) = some (nI (cwR X lo (stM m) row (fsF (cw X lo (stM m) row) d w))) := by
  have hh := h
  obtain ⟨⟨-, ⟨c1, c2, c3⟩, -⟩, hX, ⟨-, hnw, ht, ht2⟩, -⟩ := hh
  have n12 := hX.1
  have n8 := hX.2.1
  have hl0 : 0 < row.length := List.length_pos_iff.mpr h0
  obtain ⟨-, r2⟩ := hr 0 hl0
  obtain ⟨s, hs⟩ : ∃ s, s = ch row 0 := ⟨_, rfl⟩
  rw [← hs] at r2
  obtain ⟨y1, y2, y3, y4, y5⟩ := hX.2.2.1 s r2
  obtain ⟨t1, t2, t3, t4⟩ := ht s r2
  intro d
  induction d with
  | zero =>
    intro n w hw hn
    obtain ⟨n, rfl⟩ : ∃ m, n = m + 1 := ⟨n - 1, by omega⟩
    rw [Mo_reads_L11, c3, ck_s c1, bd_s, c2, gd_s (show inb 165 167 = true by decide), show (165 : Int32).toNatClampNeg = 165 from rfl, hnw, if_le (by omega) (by omega), if_pos (by omega), fsF, show w = nw X by omega]
    rfl
  | succ d ih =>
    intro n w hw hn
    obtain ⟨n, rfl⟩ : ∃ m, n = m + 1 := ⟨n - 1, by omega⟩
    have hwl : w < nw X := by omega
    obtain ⟨x1, x2, x3⟩ := hX.2.2.2.1 w hwl
    obtain ⟨v1, v2, v3⟩ := ht2 w hwl
    have ih' := ih n (w + 1) (by omega) (by omega)
    rw [mU] at ih'
    rw [Mo_reads_L11, c3, ck_s c1, bd_s, c2, gd_s (show inb 165 167 = true by decide), show (165 : Int32).toNatClampNeg = 165 from rfl, hnw, if_le (by omega) (by omega), if_neg (by omega), isWriting_s h hwl hr hfr hln hn9 h0, bd_s, fsF, cw, ← hs]
    rw [← hs] at ih'
    cases ef : wr X lo (stM m) w false 0 row with
    | false =>
      rw [ef, if_neg (by decide), Nat.or_zero] at ih'
      rw [bi_f, if_pos rfl, bd_s, lt, if_pos rfl, or_z, nI_1, ih', Bool.false_and, if_neg (by decide)]
    | true =>
      rw [ef, if_pos rfl] at ih'
      rw [bi_t, if_neg (by decide), bd_s, lt, if_neg (by decide), pow_n w (by omega), or_n, show (1 : Int32) = nI 1 from rfl, if_eqn (by omega) (by omega), nI_add, ih', Bool.true_and]
      by_cases e1 : row.length = 1
      · rw [if_pos e1, bd_s, ixS, c2, gd_s (inb_n (by omega) (by omega)), cl_n (by omega), t1, show (0 : Int32) = nI 0 from rfl, if_eqn (by omega) (by omega), decide_eq_true e1, Bool.true_and]
        by_cases e2 : sk X s = 0
        · rw [if_pos e2, bd_s, nI_add, c2, gd_s (inb_n (by omega) (by omega)), bd_s, ixW, c2, gd_s (inb_n (by omega) (by omega)), cl_n (by omega), cl_n (by omega), t2, v1, if_neg (show ¬ sk X s = 1 by omega), if_eqn (by omega) (by omega), decide_eq_true e2, Bool.true_and]
          by_cases e3 : sc X s = wc X w
          · rw [if_pos e3, long1_s h hwl, bd_s, soundLong_s h r2, bd_s, if_eqn (by omega) (by omega), decide_eq_true e3, Bool.true_and]
            by_cases e4 : (wl X w).length = (su X s).length
            · rw [if_pos e4, mlies_s h hwl r2 (by omega), bd_s, show nI 0 = (0 : Int32) from rfl, if_bi]
              by_cases e5 : wl X w = su X s
              · rw [if_pos ((lies_eq e4).mpr e5), decide_eq_true e5, if_pos rfl]; rfl
              · rw [if_neg (fun z => e5 ((lies_eq e4).mp z)), decide_eq_false e5, if_neg (by decide)]
            · rw [if_neg e4, decide_eq_false (fun z => e4 (by rw [z])), if_neg (by decide)]
          · rw [if_neg e3, decide_eq_false e3, Bool.false_and, if_neg (by decide)]
        · rw [if_neg e2, decide_eq_false e2, Bool.false_and, if_neg (by decide)]
      · rw [if_neg e1, decide_eq_false e1, Bool.false_and, if_neg (by decide)]
theorem cw_rd (hX : WFX X) (st : Nat → Bool) {row : List Nat} (h0 : row ≠ []) : cwR X lo st row (fsF (cw X lo st row) (nw X) 0) = rd X lo st row := by
  have key : fsF (cw X lo st row) (nw X) 0 = isP X st row := by
    cases row with
    | nil => exact absurd rfl h0
    | cons s l =>
      cases l with
      | cons t l =>
        rw [fsF_none]
        · rfl
        · intro i _ _
          unfold cw
          rw [decide_eq_false (by simp), Bool.false_and, Bool.and_false]
      | nil =>
        unfold isP
        dsimp only
        by_cases e1 : sk X s = 0
        · cases e2 : st s with
          | true =>
            rw [if_neg (by simp)]
            apply fsF_none
            intro i _ _
            unfold cw
            have : wr X lo st i false 0 [s] = false := by
              rw [wr, Bool.false_and, if_neg (by decide), show pbS X lo st i s 0 = none by unfold pbS; rw [if_pos (by rw [e2]; rfl)]]
            rw [this, Bool.false_and]
          | false =>
            rw [if_pos (by rw [e1]; rfl)]
            apply fsF_congr
            intro i _ hi
            unfold cw ow
            show (wr X lo st i false 0 [s] && (true && (decide (sk X s = 0) && (decide (sc X s = wc X i) && decide (wl X i = su X s))))) = _
            rw [decide_eq_true e1, Bool.true_and, Bool.true_and]
            by_cases e3 : sc X s = wc X i
            · by_cases e4 : wl X i = su X s
              · obtain ⟨x1, x2, x3⟩ := hX.2.2.2.1 i (by omega)
                have : wr X lo st i false 0 [s] = true := by
                  have hp : pbS X lo st i s 0 = some (wl X i).length := by
                    unfold pbS pb
                    rw [if_neg (by rw [e2, e1]; decide)]
                    obtain ⟨d, hd⟩ : ∃ d, (wl X i).length - 0 = d + 1 := ⟨(wl X i).length - 1, by omega⟩
                    rw [hd, pbF, if_pos ((lies_eq (by rw [e4])).mpr e4), e4, Nat.zero_add]
                  rw [wr, Bool.false_and, if_neg (by decide), hp]
                  show (if [].isEmpty = true then me lo (wl X i) (wl X i).length else _) = true
                  have hz : me lo (wl X i) (wl X i).length = true := by
                    unfold me
                    rw [Nat.sub_self]
                    rfl
                  exact hz
                rw [this, decide_eq_true e3, decide_eq_true e4, decide_eq_true e3.symm]
                rfl
              · rw [decide_eq_false e4, Bool.and_false, Bool.and_false, Bool.and_false]
            · rw [decide_eq_false e3, decide_eq_false (show ¬ wc X i = sc X s from fun z => e3 z.symm), Bool.false_and, Bool.and_false]
        · rw [if_neg (by rw [decide_eq_false e1]; simp)]
          apply fsF_none
          intro i _ _
          unfold cw
          show (_ && (_ && (decide (sk X s = 0) && _))) = false
          rw [decide_eq_false e1, Bool.false_and, Bool.and_false, Bool.and_false]
  rw [key]
  rfl
theorem reads_s (h : MwAt T V X lo m) {a fr_ : Nat} {row : List Nat} (hr : SgAt V a fr_ X row) (hfr : fr_ + row.length ≤ ln T a) (hln : ln T a < 100) (hn9 : row.length ≤ 9) (h0 : row ≠ []) : Mo_reads T V 166 a (nI fr_) (nI row.length) = some (nI (rd X lo (stM m) row)) := by
  have hl0 : 0 < row.length := List.length_pos_iff.mpr h0
  obtain ⟨r1, r2⟩ := hr 0 hl0
  rw [Nat.add_zero] at r1
  have n8 := h.2.1.2.1
  rw [Mo_reads, gd_s (inb_n (by omega) (by omega)), lt, cl_n (by omega), r1]
  have := reads_l h hr hfr hln hn9 h0 (nw X) FU 0 (by omega) (by rw [← FU_big]; omega)
  rw [cw_rd h.2.1 _ h0] at this
  exact this
end MR
