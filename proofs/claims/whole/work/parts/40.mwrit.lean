/-! ===== the Model: how many writings ===== -/
section MWR
variable {T : Tx} {X : Lex} {lo : Bool} {m w : Nat}
theorem w16 {V : Vx} (hm : MwAt T V X lo m) (hw : w < nw X) : ∀ (d n i c : Nat), i + d = ns X → d < n → Mo_writings_L16 T V 166 (nI w) n (nI c) (nI i) = some (nI (c + ctF (mk X (stM m) (wc X w)) d i)) := by
  have hh := hm
  obtain ⟨⟨-, ⟨c1, c2, c3⟩, -⟩, hX, ⟨hns, -, ht, ht2⟩, -⟩ := hh
  have n12 := hX.1
  have n8 := hX.2.1
  obtain ⟨x1, x2, x3⟩ := hX.2.2.2.1 w hw
  intro d
  induction d with
  | zero =>
    intro n i c hi hn
    obtain ⟨n, rfl⟩ : ∃ m, n = m + 1 := ⟨n - 1, by omega⟩
    rw [Mo_writings_L16, c3, ck_s c1, bd_s, c2, gd_s (show inb 164 167 = true by decide), show (164 : Int32).toNatClampNeg = 164 from rfl, hns, if_le (by omega) (by omega), if_pos (by omega), ctF]
    rfl
  | succ d ih =>
    intro n i c hi hn
    obtain ⟨n, rfl⟩ : ∃ m, n = m + 1 := ⟨n - 1, by omega⟩
    have hi' : i < ns X := by omega
    obtain ⟨y1, y2, y3, y4, y5⟩ := hX.2.2.1 i hi'
    obtain ⟨t1, t2, t3, t4⟩ := ht i hi'
    rw [Mo_writings_L16, c3, ck_s c1, bd_s, c2, gd_s (show inb 164 167 = true by decide), show (164 : Int32).toNatClampNeg = 164 from rfl, hns, if_le (by omega) (by omega), if_neg (by omega), bd_s, ixS, c2, gd_s (inb_n (by omega) (by omega)), cl_n (by omega), t1, show (2 : Int32) = nI 2 from rfl, if_eqn (by omega) (by omega), bd_s, ad_1, c2, gd_s (inb_n (by omega) (by omega)), bd_s, ixW, c2, gd_s (inb_n (by omega) (by omega)), cl_n (by omega), cl_n (by omega), t2, (ht2 w hw).1, isStruck_s hm (by omega), bd_s, if_bi, ad_1, lt, lt, show nI c + 0 = nI c from nI_add c 0, ad_1, ih n (i + 1) c (by omega) (by omega), ih n (i + 1) (c + 1) (by omega) (by omega), ctF]
    unfold mk
    by_cases e1 : sk X i = 2
    · rw [if_pos e1, if_neg (show ¬ sk X i = 1 by omega), if_eqn (by omega) (by omega), decide_eq_true e1, Bool.true_and]
      by_cases e2 : sc X i = wc X w
      · rw [if_pos e2, decide_eq_true e2, Bool.and_true]
        cases stM m i with
        | true => rw [if_pos rfl, Bool.not_true, if_neg (by decide), Nat.zero_add]
        | false => rw [if_neg (by decide), Bool.not_false, if_pos rfl, Nat.add_assoc]
      · rw [if_neg e2, decide_eq_false e2, Bool.and_false, if_neg (by decide), Nat.zero_add]
    · rw [if_neg e1, decide_eq_false e1, Bool.false_and, Bool.false_and, if_neg (by decide), Nat.zero_add]
theorem w96 (p1 y9 : Int32) : ∀ (d n k : Nat) (V : Vx), k + d = 512 → d < n → MoSh T V → (∀ j, j < k → aL V 178 j = lN (if j = 0 then 1 else 0)) → ∃ V', Mo_writings_L96 T 166 p1 y9 n V (nI k) = some V' ∧ FrN V V' ∧ (∀ b, aI V' b = aI V b) ∧ (∀ f, fI V' f = fI V f) ∧ ∀ j, j < 512 → aL V' 178 j = lN (if j = 0 then 1 else 0) := by
  intro d
  induction d with
  | zero =>
    intro n k V hk hn hM h
    obtain ⟨n, rfl⟩ : ∃ m, n = m + 1 := ⟨n - 1, by omega⟩
    refine ⟨V, ?_, FrN.rf, fun _ => rfl, fun _ => rfl, fun j hj => h j (by omega)⟩
    rw [Mo_writings_L96, show (512 : Int32) = nI 512 from rfl, if_le (by omega) (by omega), if_pos (by omega)]
  | succ d ih =>
    intro n k V hk hn hM h
    obtain ⟨n, rfl⟩ : ∃ m, n = m + 1 := ⟨n - 1, by omega⟩
    have hM' := hM
    obtain ⟨-, -, -, -, -, -, -, -, -, -, -, ⟨b1, b2, b3⟩, -⟩ := hM'
    have hF : FrN V (wL V 178 k (lN (if k = 0 then 1 else 0))) := FrN.wL V (by decide)
    obtain ⟨V', g1, g2, g3, g4, g5⟩ := ih n (k + 1) (wL V 178 k (lN (if k = 0 then 1 else 0))) (by omega) (by omega) (hM.fr hF.1) (fun j hj => by
      rw [aL_wL]
      by_cases e : j = k
      · rw [if_pos ⟨rfl, e⟩, e]
      · rw [if_neg (fun z => e z.2)]; exact h j (by omega))
    refine ⟨V', ?_, hF.tr g2, fun b => by rw [g3]; rfl, fun f => by rw [g4]; rfl, g5⟩
    rw [Mo_writings_L96, show (512 : Int32) = nI 512 from rfl, if_le (by omega) (by omega), if_neg (by omega), b3, ck_s b1, bd_s, show (0 : Int32) = nI 0 from rfl, if_eqn (by omega) (by omega), b2, gd_s (inb_n (by omega) (by omega)), gd_s (inb_n (by omega) (by omega)), lt, lt, cl_n (by omega), ad_1, ← g1]
    by_cases e : k = 0
    · rw [if_pos e, if_pos e]; rfl
    · rw [if_neg e, if_neg e]; rfl
/-- what is kept while rows are counted -/
def Kp (V V' : Vx) : Prop := FrN V V' ∧ (∀ b, aI V' b = aI V b) ∧ (∀ f, fI V' f = fI V f)
theorem Kp.rf {V : Vx} : Kp V V := ⟨FrN.rf, fun _ => rfl, fun _ => rfl⟩
theorem Kp.tr {V V1 V2 : Vx} (h : Kp V V1) (h2 : Kp V1 V2) : Kp V V2 := ⟨h.1.tr h2.1, fun b => by rw [h2.2.1, h.2.1], fun f => by rw [h2.2.2, h.2.2]⟩
theorem Kp.wL (V : Vx) {i : Nat} {v : Int64} : Kp V (wL V 178 i v) := ⟨FrN.wL V (by decide), fun _ => rfl, fun _ => rfl⟩
theorem Kp.ex {V V' : Vx} (h : Kp V V') {st : Nat → Bool} {M : Nat} {P : Nat → Nat} (hE : ExD V X lo st w M P) : ExD V' X lo st w M P := hE.fr (by rw [h.2.2]) (fun i => by rw [h.2.1]) (fun i => by rw [h.2.1]) (fun i => by rw [h.2.1])
theorem w164 (p1 y9 : Int32) (v69 : Int64) (v70 x75 : Int32) {t M : Nat} (ht : t ≤ 512) (hM512 : M ≤ 512) : ∀ (d n k : Nat) (V : Vx), k + d = M → d < n → MoSh T V → fI V 911 166 = nI M → ∃ V', Mo_writings_L164 T 166 p1 y9 v69 v70 x75 (nI t) n V (nI k) = some V' ∧ Kp V V' ∧ ∀ j, aL V' 178 j = if t + k ≤ j ∧ j < t + M then 0 else aL V 178 j := by
  intro d
  induction d with
  | zero =>
    intro n k V hk hn hS h9
    obtain ⟨n, rfl⟩ : ∃ m, n = m + 1 := ⟨n - 1, by omega⟩
    refine ⟨V, ?_, Kp.rf, fun j => by rw [if_neg (by omega)]⟩
    rw [Mo_writings_L164, h9, if_le (by omega) (by omega), if_pos (by omega)]
  | succ d ih =>
    intro n k V hk hn hS h9
    obtain ⟨n, rfl⟩ : ∃ m, n = m + 1 := ⟨n - 1, by omega⟩
    have hS' := hS
    obtain ⟨-, -, -, -, -, -, -, -, -, -, -, ⟨b1, b2, b3⟩, -⟩ := hS'
    have hK : Kp V (wL V 178 (t + k) 0) := Kp.wL V
    obtain ⟨V', g1, g2, g3⟩ := ih n (k + 1) (wL V 178 (t + k) 0) (by omega) (by omega) (hS.fr hK.1.1) h9
    refine ⟨V', ?_, hK.tr g2, fun j => ?_⟩
    · rw [Mo_writings_L164, h9, if_le (by omega) (by omega), if_neg (by omega), b3, ck_s b1, bd_s, nI_add, b2, gd_s (inb_n (by omega) (by omega)), lt, cl_n (by omega), ad_1]
      exact g1
    · rw [g3, aL_wL]
      by_cases e : j = t + k
      · rw [if_neg (show ¬ (t + (k + 1) ≤ j ∧ j < t + M) by omega), if_pos ⟨rfl, e⟩, if_pos (show t + k ≤ j ∧ j < t + M by omega)]
      · by_cases e2 : t + (k + 1) ≤ j ∧ j < t + M
        · rw [if_pos e2, if_pos (show t + k ≤ j ∧ j < t + M by omega)]
        · rw [if_neg e2, if_neg (fun z => e z.2), if_neg (show ¬ (t + k ≤ j ∧ j < t + M) by omega)]
/-- the sum over the sets of what is asked of their places -/
def Wt (R g P : Nat → Nat) (M : Nat) : Nat := smF (fun k => R k * g (P k)) M 0
def Ng (X : Lex) (lo : Bool) (st : Nat → Bool) (w : Nat) (g : Nat → Nat) (p d i : Nat) : Nat := smF (fun s => match nxW X lo st w s p with | none => 0 | some q => g q) d i
set_option maxHeartbeats 1000000 in
theorem w205 (p1 y9 : Int32) (v69 : Int64) (v70 : Int32) {fr_ t M k : Nat} {P : Nat → Nat} (hft : (fr_ = 0 ∧ t = 512) ∨ (fr_ = 512 ∧ t = 0)) (hM512 : M ≤ 512) (hk : k < M) {rk : Nat} : ∀ (d n i : Nat) (V : Vx) (R : Nat → Nat), i + d = ns X → d < n → MwAt T V X lo m → ExD V X lo (stM m) w M P → aL V 178 (fr_ + k) = lN rk → (∀ j, j < M → aL V 178 (t + j) = lN (R j)) →
    ∃ (V' : Vx) (R' : Nat → Nat), Mo_writings_L205 T 166 p1 y9 v69 v70 (nI fr_) (nI t) (nI k) n V (nI i) = some V' ∧ Kp V V' ∧ (∀ j, j < M → aL V' 178 (t + j) = lN (R' j)) ∧ (∀ j, j < M → aL V' 178 (fr_ + j) = aL V 178 (fr_ + j)) ∧ ∀ g, Wt R' g P M = Wt R g P M + rk * Ng X lo (stM m) w g (P k) d i := by
  intro d
  induction d with
  | zero =>
    intro n i V R hi hn hm hE h1 h2
    obtain ⟨n, rfl⟩ : ∃ m, n = m + 1 := ⟨n - 1, by omega⟩
    have hh := hm
    obtain ⟨⟨-, ⟨c1, c2, c3⟩, -⟩, hX, ⟨hns, -⟩, -⟩ := hh
    have n12 := hX.1
    refine ⟨V, R, ?_, Kp.rf, h2, fun _ _ => rfl, fun g => ?_⟩
    · rw [Mo_writings_L205, c3, ck_s c1, bd_s, c2, gd_s (show inb 164 167 = true by decide), show (164 : Int32).toNatClampNeg = 164 from rfl, hns, if_le (by omega) (by omega), if_pos (by omega)]
    · unfold Ng
      rw [smF]
      rfl
  | succ d ih =>
    intro n i V R hi hn hm hE h1 h2
    obtain ⟨n, rfl⟩ : ∃ m, n = m + 1 := ⟨n - 1, by omega⟩
    have hh := hm
    obtain ⟨⟨-, ⟨c1, c2, c3⟩, -, -, -, -, -, ⟨f1, f2, f3⟩, -, -, -, ⟨b1, b2, b3⟩, -⟩, hX, ⟨hns, -⟩, -⟩ := hh
    have n12 := hX.1
    have hi' : i < ns X := by omega
    have hstep : ∀ g, Ng X lo (stM m) w g (P k) (d + 1) i = (match nxW X lo (stM m) w i (P k) with | none => 0 | some q => g q) + Ng X lo (stM m) w g (P k) d (i + 1) := fun g => rfl
    rw [Mo_writings_L205, c3, ck_s c1, bd_s, c2, gd_s (show inb 164 167 = true by decide), show (164 : Int32).toNatClampNeg = 164 from rfl, hns, if_le (by omega) (by omega), if_neg (by omega), f3, ck_s f1, bd_s, ix12, f2, gd_s (inb_n (by omega) (by omega)), cl_n (by omega), ad_1]
    rcases hE.2.2 k i hk hi' with ⟨q1, q2⟩ | ⟨q, j, q1, q2, q3, q4⟩
    · obtain ⟨V', R', g1, g2, g3, g4, g5⟩ := ih n (i + 1) V R (by omega) (by omega) hm hE h1 h2
      refine ⟨V', R', ?_, g2, g3, g4, fun g => ?_⟩
      · rw [q2, if_pos (by decide)]; exact g1
      · rw [g5, hstep, q1, Nat.zero_add]
    · have hK : Kp V (wL V 178 (t + j) (lN (R j + rk))) := Kp.wL V
      obtain ⟨V', R', g1, g2, g3, g4, g5⟩ := ih n (i + 1) (wL V 178 (t + j) (lN (R j + rk))) (va_up R j (R j + rk)) (by omega) (by omega) (hm.frn hK.1) (hK.ex hE) (by rw [aL_wL, if_neg (fun z => by omega)]; exact h1) (fun j' hj' => by
        rw [aL_wL]
        unfold va_up
        by_cases e : j' = j
        · rw [if_pos ⟨rfl, by rw [e]⟩, if_pos e]
        · rw [if_neg (fun z => by omega), if_neg e]; exact h2 j' hj')
      refine ⟨V', R', ?_, hK.tr g2, g3, fun j' hj' => by rw [g4 j' hj', aL_wL, if_neg (fun z => by omega)], fun g => ?_⟩
      · rw [q2, if_neg (n_lt (by omega)), b3, ck_s b1, bd_s, bd_s, f2, gd_s (inb_n (by omega) (by omega)), q2, nI_add, b2, gd_s (inb_n (by omega) (by omega)), bd_s, nI_add, b2, gd_s (inb_n (by omega) (by omega)), gd_s (inb_n (by omega) (by omega)), lt, cl_n (by omega), cl_n (by omega), h1, h2 j q3, lN_add]
        exact g1
      · rw [g5, hstep, q1]
        dsimp only
        unfold Wt
        have e4 : (fun k' => va_up R j (R j + rk) k' * g (P k')) = va_up (fun k' => R k' * g (P k')) j (R j * g (P j) + rk * g q) := by
          funext k'
          unfold va_up
          by_cases e1 : k' = j
          · rw [if_pos e1, if_pos e1, e1, Nat.add_mul, q4]
          · rw [if_neg e1, if_neg e1]
        rw [e4, smF_up (fun k' => R k' * g (P k')) j (rk * g q) _ _ (Nat.zero_le j) (by omega), Nat.mul_add]
        omega
theorem w193 (p1 y9 : Int32) (v69 : Int64) (v70 : Int32) {fr_ t M : Nat} {P R0 : Nat → Nat} (hft : (fr_ = 0 ∧ t = 512) ∨ (fr_ = 512 ∧ t = 0)) (hM512 : M ≤ 512) : ∀ (d n k : Nat) (V : Vx) (R : Nat → Nat), k + d = M → d < n → MwAt T V X lo m → ExD V X lo (stM m) w M P → (∀ j, j < M → aL V 178 (fr_ + j) = lN (R0 j)) → (∀ j, j < M → aL V 178 (t + j) = lN (R j)) →
    ∃ (V' : Vx) (R' : Nat → Nat), Mo_writings_L193 T 166 p1 y9 v69 v70 (nI fr_) (nI t) n V (nI k) = some V' ∧ Kp V V' ∧ (∀ j, j < M → aL V' 178 (t + j) = lN (R' j)) ∧ ∀ g, Wt R' g P M = Wt R g P M + smF (fun k => R0 k * Ng X lo (stM m) w g (P k) (ns X) 0) d k := by
  intro d
  induction d with
  | zero =>
    intro n k V R hk hn hm hE h1 h2
    obtain ⟨n, rfl⟩ : ∃ m, n = m + 1 := ⟨n - 1, by omega⟩
    refine ⟨V, R, ?_, Kp.rf, h2, fun g => rfl⟩
    rw [Mo_writings_L193, hE.1.1, if_le (by omega) (by omega), if_pos (by omega)]
  | succ d ih =>
    intro n k V R hk hn hm hE h1 h2
    obtain ⟨n, rfl⟩ : ∃ m, n = m + 1 := ⟨n - 1, by omega⟩
    have n12 := hm.2.1.1
    obtain ⟨V1, R1, p1', p2, p3, p4, p5⟩ := w205 (T := T) (X := X) (lo := lo) (m := m) (w := w) p1 y9 v69 v70 hft hM512 (k := k) (by omega) (rk := R0 k) (ns X) FU 0 V R (by omega) (by rw [← FU_big]; omega) hm hE (h1 k (by omega)) h2
    obtain ⟨V2, R2, q1, q2, q3, q4⟩ := ih n (k + 1) V1 R1 (by omega) (by omega) (hm.frn p2.1) (p2.ex hE) (fun j hj => by rw [p4 j hj]; exact h1 j hj) p3
    refine ⟨V2, R2, ?_, p2.tr q2, q3, fun g => ?_⟩
    · rw [Mo_writings_L193, hE.1.1, if_le (by omega) (by omega), if_neg (by omega), show (0 : Int32) = nI 0 from rfl, p1', bd_s, ad_1]
      exact q1
    · rw [q4, p5, smF]
      omega
end MWR
