/-! ===== the Model: signs and words in its rows, sets of places ===== -/
theorem smod_n : ∀ k, k < 31 → (nI k).toBitVec.smod 32 = BitVec.ofNat 32 k := by decide +kernel
theorem shr_n {a k : Nat} (ha : a < 2 ^ 31) (hk : k < 31) : nI a >>> (nI k &&& 31) = nI (a >>> k) := by
  have e1 : nI k &&& 31 = nI k := by
    have : nI k &&& nI 31 = nI (k &&& 31) := and_n k 31
    rw [show (31 : Int32) = nI 31 from rfl, this, show (31 : Nat) = 2 ^ 5 - 1 from rfl, Nat.and_two_pow_sub_one_eq_mod, Nat.mod_eq_of_lt (by omega)]
  rw [e1]
  apply Int32.toBitVec_inj.mp
  rw [Int32.toBitVec_shiftRight, smod_n k hk]
  have hm : (nI a).toBitVec.msb = false := by
    rw [BitVec.msb_eq_decide]
    show decide (2 ^ (32 - 1) ≤ (BitVec.ofNat 32 a).toNat) = false
    rw [BitVec.toNat_ofNat, Nat.mod_eq_of_lt (by omega)]
    exact decide_eq_false (by omega)
  rw [BitVec.sshiftRight_eq', BitVec.sshiftRight_eq_of_msb_false hm]
  apply BitVec.eq_of_toNat_eq
  rw [BitVec.toNat_ushiftRight, BitVec.toNat_ofNat, Nat.mod_eq_of_lt (by omega)]
  show (BitVec.ofNat 32 a).toNat >>> k = (BitVec.ofNat 32 (a >>> k)).toNat
  have h2 : a >>> k ≤ a := Nat.shiftRight_le a k
  rw [BitVec.toNat_ofNat, BitVec.toNat_ofNat, Nat.mod_eq_of_lt (by omega), Nat.mod_eq_of_lt (by omega)]
theorem bit_n {a k : Nat} (ha : a < 2 ^ 31) (hk : k < 31) : (nI a >>> (nI k &&& 31)) &&& 1 = bi (a.testBit k) := by
  rw [shr_n ha hk, show (1 : Int32) = nI 1 from rfl, and_n, Nat.testBit, Nat.and_comm (a >>> k) 1]
  have h := Nat.and_one_is_mod (a >>> k)
  rw [Nat.and_comm] at h
  rw [h]
  rcases Nat.mod_two_eq_zero_or_one (a >>> k) with e | e
  · rw [e]; rfl
  · rw [e]; rfl
theorem if_bi1 {α : Type} (c : Bool) (x y : α) : (if bi c = 1 then x else y) = if c = true then x else y := by cases c <;> simp [bi]
theorem nI_mul (a b : Nat) : nI a * nI b = nI (a * b) := (Int32.ofNat_mul a b).symm
theorem ixL (w k : Nat) : ((84 + (10 * nI w)) + 2) + nI k = nI (84 + 10 * w + 2 + k) := by
  rw [show (84 : Int32) = nI 84 from rfl, show (10 : Int32) = nI 10 from rfl, show (2 : Int32) = nI 2 from rfl, nI_mul, nI_add, nI_add, nI_add]
theorem ixW (w : Nat) : 84 + (10 * nI w) = nI (84 + 10 * w) := by
  rw [show (84 : Int32) = nI 84 from rfl, show (10 : Int32) = nI 10 from rfl, nI_mul, nI_add]
theorem ixS (s : Nat) : 7 * nI s = nI (7 * s) := by
  rw [show (7 : Int32) = nI 7 from rfl, nI_mul]
theorem ad_1 (n : Nat) : nI n + 1 = nI (n + 1) := nI_1 n
theorem ad_2 (n : Nat) : nI n + 2 = nI (n + 2) := nI_add n 2
theorem ad_3 (n : Nat) : nI n + 3 = nI (n + 3) := nI_add n 3
/-- one of the Model's rows of a lexicon -/
def ToldAt (V : Vx) (a : Nat) (X : Lex) : Prop :=
  aI V a 164 = nI (ns X) ∧ aI V a 165 = nI (nw X) ∧
  (∀ s, s < ns X → aI V a (7 * s) = nI (sk X s) ∧ aI V a (7 * s + 1) = (if sk X s = 1 then -4 else nI (sc X s)) ∧ aI V a (7 * s + 2) = nI (su X s).length ∧ ∀ k, k < (su X s).length → aI V a (7 * s + 3 + k) = nI (ch (su X s) k)) ∧
  (∀ w, w < nw X → aI V a (84 + 10 * w) = nI (wc X w) ∧ aI V a (84 + 10 * w + 1) = nI (wl X w).length ∧ ∀ k, k < (wl X w).length → aI V a (84 + 10 * w + 2 + k) = nI (ch (wl X w) k))
def MoSh (T : Tx) (V : Vx) : Prop :=
  (kd T 167 = 11 ∧ ln T 167 = 200 ∧ fR V 901 166 = some 167) ∧ (kd T 168 = 11 ∧ ln T 168 = 167 ∧ fR V 903 166 = some 168) ∧ (kd T 169 = 11 ∧ ln T 169 = 167 ∧ fR V 904 166 = some 169) ∧ (kd T 170 = 11 ∧ ln T 170 = 19 ∧ fR V 905 166 = some 170) ∧ (kd T 171 = 11 ∧ ln T 171 = 114 ∧ fR V 906 166 = some 171) ∧ (kd T 172 = 11 ∧ ln T 172 = 512 ∧ fR V 908 166 = some 172) ∧ (kd T 173 = 11 ∧ ln T 173 = 512 ∧ fR V 909 166 = some 173) ∧ (kd T 174 = 11 ∧ ln T 174 = 6144 ∧ fR V 910 166 = some 174) ∧ (kd T 175 = 11 ∧ ln T 175 = 5120 ∧ fR V 912 166 = some 175) ∧ (kd T 176 = 11 ∧ ln T 176 = 10 ∧ fR V 913 166 = some 176) ∧ (kd T 177 = 11 ∧ ln T 177 = 10 ∧ fR V 915 166 = some 177) ∧ (kd T 178 = 12 ∧ ln T 178 = 1024 ∧ fR V 916 166 = some 178) ∧ (kd T 179 = 11 ∧ ln T 179 = 17 ∧ fR V 917 166 = some 179) ∧ (kd T 180 = 12 ∧ ln T 180 = 17 ∧ fR V 918 166 = some 180) ∧ (kd T 181 = 11 ∧ ln T 181 = 160 ∧ fR V 919 166 = some 181)
theorem MoSh.fr {T : Tx} {V V' : Vx} {P : Nat → Prop} (h : MoSh T V) (hF : Fr P V V') : MoSh T V' := by
  unfold MoSh at h ⊢
  rw [hF.1]
  exact h
theorem ToldAt.fr {V V' : Vx} {a : Nat} {X : Lex} {P : Nat → Prop} (h : ToldAt V a X) (hF : Fr P V V') (ha : ¬ P a) : ToldAt V' a X := by
  have e : aI V' a = aI V a := funext fun i => hF.2.2.2.1 a i ha
  unfold ToldAt at h ⊢
  rw [e]
  exact h
def stM (m : Nat) (i : Nat) : Bool := m.testBit i
/-- the Model holds a lexicon, its law and its struck signs -/
def MwAt (T : Tx) (V : Vx) (X : Lex) (lo : Bool) (m : Nat) : Prop := MoSh T V ∧ WFX X ∧ ToldAt V 168 X ∧ aI V 170 0 = bi lo ∧ aI V 170 1 = nI m ∧ m < 2 ^ 12 ∧ (∀ w, w < nw X → ∀ x ∈ wl X w, x < 128) ∧ ∀ s, s < ns X → ∀ x ∈ su X s, x < 128
theorem MwAt.fr {T : Tx} {V V' : Vx} {X : Lex} {lo : Bool} {m : Nat} {P : Nat → Prop} (h : MwAt T V X lo m) (hF : Fr P V V') (h1 : ¬ P 168) (h2 : ¬ P 170) : MwAt T V' X lo m := by
  obtain ⟨a1, a2, a3, a4, a5, a6⟩ := h
  exact ⟨a1.fr hF, a2, a3.fr hF h1, by rw [hF.2.2.2.1 _ _ h2]; exact a4, by rw [hF.2.2.2.1 _ _ h2]; exact a5, a6⟩
section MW
variable {T : Tx} {V : Vx} {X : Lex} {lo : Bool} {m w s : Nat}
theorem letterOf_s (h : MwAt T V X lo m) (hw : w < nw X) {k : Nat} (hk : k < (wl X w).length) : Mo_letterOf T V 166 (nI w) (nI k) = some (nI (ch (wl X w) k)) := by
  obtain ⟨⟨-, ⟨c1, c2, c3⟩, -⟩, hX, ⟨-, -, -, ht⟩, -⟩ := h
  obtain ⟨x1, x2, x3⟩ := hX.2.2.2.1 w hw
  have n8 := hX.2.1
  rw [Mo_letterOf, c3, ck_s c1, bd_s, ixL, c2, gd_s (inb_n (by omega) (by omega)), cl_n (by omega), (ht w hw).2.2 k hk]
theorem long1_s (h : MwAt T V X lo m) (hw : w < nw X) : Mo_long1 T V 166 (nI w) = some (nI (wl X w).length) := by
  obtain ⟨⟨-, ⟨c1, c2, c3⟩, -⟩, hX, ⟨-, -, -, ht⟩, -⟩ := h
  have n8 := hX.2.1
  rw [Mo_long1, c3, ck_s c1, bd_s, ixW, ad_1, c2, gd_s (inb_n (by omega) (by omega)), cl_n (by omega), (ht w hw).2.1]
theorem soundLong_s (h : MwAt T V X lo m) (hs : s < ns X) : Mo_soundLong T V 166 (nI s) = some (nI (su X s).length) := by
  obtain ⟨⟨-, ⟨c1, c2, c3⟩, -⟩, hX, ⟨-, -, ht, -⟩, -⟩ := h
  have n8 := hX.1
  rw [Mo_soundLong, c3, ck_s c1, bd_s, ixS, ad_2, c2, gd_s (inb_n (by omega) (by omega)), cl_n (by omega), (ht s hs).2.2.1]
theorem hasSound_s (h : MwAt T V X lo m) (hs : s < ns X) : Mo_hasSound T V 166 (nI s) = some (bi (!(decide (sk X s = 2)))) := by
  obtain ⟨⟨-, ⟨c1, c2, c3⟩, -⟩, hX, ⟨-, -, ht, -⟩, -⟩ := h
  have n8 := hX.1
  have k2 := (hX.2.2.1 s hs).1
  rw [Mo_hasSound, c3, ck_s c1, bd_s, ixS, c2, gd_s (inb_n (by omega) (by omega)), cl_n (by omega), (ht s hs).1, show (2 : Int32) = nI 2 from rfl, if_eqn (by omega) (by omega)]
  by_cases e : sk X s = 2
  · rw [if_pos e, e]; rfl
  · rw [if_neg e, decide_eq_false e]; rfl
theorem isStruck_s (h : MwAt T V X lo m) (hs : s < 12) : Mo_isStruck T V 166 (nI s) = some (bi (stM m s)) := by
  obtain ⟨⟨-, -, -, ⟨c1, c2, c3⟩, -⟩, hX, -, -, h5, h6, -⟩ := h
  rw [Mo_isStruck, c3, ck_s c1, bd_s, c2, gd_s (show inb 1 19 = true by decide), show (1 : Int32).toNatClampNeg = 1 from rfl, h5, bit_n (by omega) (by omega), if_bi1]
  unfold stM
  cases m.testBit s <;> rfl
theorem isVowel_s (h : MwAt T V X lo m) (hw : w < nw X) {k : Nat} (hk : k < (wl X w).length) : Mo_isVowel T V 166 (nI w) (nI k) = some (bi (isV (ch (wl X w) k))) := by
  have h128 := gD_lt (h.2.2.2.2.2.2.1 w hw) (by decide) k
  rw [Mo_isVowel, letterOf_s h hw hk, bd_s, show (97 : Int32) = nI 97 from rfl, if_eqn (by omega) (by omega), show (101 : Int32) = nI 101 from rfl, if_eqn (by omega) (by omega), show (105 : Int32) = nI 105 from rfl, if_eqn (by omega) (by omega), show (111 : Int32) = nI 111 from rfl, if_eqn (by omega) (by omega), show (117 : Int32) = nI 117 from rfl, if_eqn (by omega) (by omega)]
  unfold isV
  by_cases e1 : ch (wl X w) k = 97
  · rw [if_pos e1, e1]; rfl
  · by_cases e2 : ch (wl X w) k = 101
    · rw [if_neg e1, if_pos e2, e2]; rfl
    · by_cases e3 : ch (wl X w) k = 105
      · rw [if_neg e1, if_neg e2, if_pos e3, e3]; rfl
      · by_cases e4 : ch (wl X w) k = 111
        · rw [if_neg e1, if_neg e2, if_neg e3, if_pos e4, e4]; rfl
        · by_cases e5 : ch (wl X w) k = 117
          · rw [if_neg e1, if_neg e2, if_neg e3, if_neg e4, if_pos e5, e5]; rfl
          · rw [if_neg e1, if_neg e2, if_neg e3, if_neg e4, if_neg e5, beq_eq_false_iff_ne.mpr e1, beq_eq_false_iff_ne.mpr e2, beq_eq_false_iff_ne.mpr e3, beq_eq_false_iff_ne.mpr e4, beq_eq_false_iff_ne.mpr e5]; rfl
theorem mlies_l (h : MwAt T V X lo m) (hw : w < nw X) (hs : s < ns X) {k : Nat} (hk : k + (su X s).length ≤ (wl X w).length) : ∀ (d n j : Nat), j + d = (su X s).length → d < n → (∀ c : Bool, Mo_lies_L25 T V 166 (nI w) (nI k) (nI s) n (bi c) (nI j) = some (bi (c && alF (fun i => ch (wl X w) (k + i) == ch (su X s) i) d j))) := by
  have hh := h
  obtain ⟨⟨-, ⟨c1, c2, c3⟩, -⟩, hX, ⟨-, -, ht, -⟩, -, -, -, g1, g2⟩ := hh
  have n12 := hX.1
  obtain ⟨x1, x2, x3⟩ := hX.2.2.2.1 w hw
  obtain ⟨y1, y2, y3, y4, y5⟩ := hX.2.2.1 s hs
  intro d
  induction d with
  | zero =>
    intro n j hj hn c
    obtain ⟨n, rfl⟩ : ∃ m, n = m + 1 := ⟨n - 1, by omega⟩
    rw [Mo_lies_L25, soundLong_s h hs, bd_s, if_le (by omega) (by omega), if_pos (by omega), gd_s (zo_bi c), alF, Bool.and_true]
  | succ d ih =>
    intro n j hj hn c
    obtain ⟨n, rfl⟩ : ∃ m, n = m + 1 := ⟨n - 1, by omega⟩
    have z1 := gD_lt (g1 w hw) (by decide) (k + j)
    have z2 := gD_lt (g2 s hs) (by decide) j
    rw [Mo_lies_L25, soundLong_s h hs, bd_s, if_le (by omega) (by omega), if_neg (by omega)]
    cases c with
    | false => rw [bi_f, if_pos rfl, gd_s (by decide), Bool.false_and]; rfl
    | true =>
      rw [bi_t, if_neg (by decide), nI_add, letterOf_s h hw (by omega), bd_s, c3, ck_s c1, bd_s, ixS, ad_3, nI_add, c2, gd_s (inb_n (by omega) (by omega)), cl_n (by omega), (ht s hs).2.2.2 j (by omega), if_eqn (by omega) (by omega), nI_1]
      have i1 := ih n (j + 1) (by omega) (by omega) true
      have i2 := ih n (j + 1) (by omega) (by omega) false
      rw [bi_t] at i1
      rw [bi_f] at i2
      rw [i1, i2, alF]
      by_cases e : ch (wl X w) (k + j) = ch (su X s) j
      · rw [if_pos e, e, beq_self_eq_true]; simp only [Bool.true_and]
      · rw [if_neg e, beq_eq_false_iff_ne.mpr e]; simp only [Bool.false_and, Bool.true_and]
theorem mlies_s (h : MwAt T V X lo m) (hw : w < nw X) (hs : s < ns X) {k : Nat} (hk : k < 100) : Mo_lies T V 166 (nI w) (nI k) (nI s) = some (bi (lies (wl X w) (su X s) k)) := by
  have hX := h.2.1
  obtain ⟨x1, x2, x3⟩ := hX.2.2.2.1 w hw
  obtain ⟨y1, y2, y3, y4, y5⟩ := hX.2.2.1 s hs
  rw [Mo_lies, soundLong_s h hs, bd_s, long1_s h hw, bd_s, nI_add, if_ltn (by omega) (by omega)]
  unfold lies
  by_cases e : k + (su X s).length ≤ (wl X w).length
  · rw [if_neg (by omega), bd_s]
    have := mlies_l h hw hs e (su X s).length FU 0 (by omega) (by rw [← FU_big]; omega) true
    rw [decide_eq_true e, Bool.true_and, ← Bool.true_and (alF _ _ _)]
    exact this
  · rw [if_pos (by omega), bd_s, decide_eq_false e, Bool.false_and, ← FU_big, Mo_lies_L25, soundLong_s h hs, bd_s, show (0 : Int32) = nI 0 from rfl]
    by_cases e2 : nI (su X s).length ≤ nI 0
    · rw [if_pos e2]; rfl
    · rw [if_neg e2]; rfl
end MW
