/-! ===== the Model: how many writings, all of it ===== -/
section MWS
variable {T : Tx} {X : Lex} {lo : Bool} {m w : Nat}
def g1 (X : Lex) (lo : Bool) (w p : Nat) : Nat := if me lo (wl X w) p = true then 1 else 0
theorem w283 (hw : w < nw X) {y9 nn t M fac : Nat} {P R : Nat → Nat} (ht : t ≤ 512) (hM512 : M ≤ 512) (hnn : nn < 100) (hy : y9 < 100) (hfac : fac = if 9 ≤ nn then 1 else 1 + y9) {V : Vx} (hm : MwAt T V X lo m) (hE : ExD V X lo (stM m) w M P) (h2 : ∀ j, j < M → aL V 178 (t + j) = lN (R j)) : ∀ (d n k s : Nat), k + d = M → d < n →
    Mo_writings_L283 T V 166 (nI w) (nI y9) (nI nn) (nI t) n (lN s) (nI k) = some (lN (s + fac * smF (fun k => R k * g1 X lo w (P k)) d k)) := by
  have hSh := hm.1
  obtain ⟨-, -, -, -, -, ⟨d1, d2, d3⟩, -, -, -, -, -, ⟨b1, b2, b3⟩, -⟩ := hSh
  intro d
  induction d with
  | zero =>
    intro n k s hk hn
    obtain ⟨n, rfl⟩ : ∃ m, n = m + 1 := ⟨n - 1, by omega⟩
    rw [Mo_writings_L283, hE.1.1, if_le (by omega) (by omega), if_pos (by omega), smF]
    rfl
  | succ d ih =>
    intro n k s hk hn
    obtain ⟨n, rfl⟩ : ∃ m, n = m + 1 := ⟨n - 1, by omega⟩
    obtain ⟨S, e1, e2⟩ := hE.1.2.1 k (by omega)
    have hx : (if 9 ≤ nI nn then some 1 else some (1 + nI y9)) = some (nI fac) := by
      rw [show (9 : Int32) = nI 9 from rfl, if_le (by omega) (by omega), hfac]
      by_cases e : 9 ≤ nn
      · rw [if_pos e, if_pos e]; rfl
      · rw [if_neg e, if_neg e]
        exact congrArg some (nI_add 1 y9)
    have hf : fac < 2 ^ 31 := by
      rw [hfac]
      by_cases e : 9 ≤ nn
      · rw [if_pos e]; omega
      · rw [if_neg e]; omega
    rw [Mo_writings_L283, hE.1.1, if_le (by omega) (by omega), if_neg (by omega), d3, ck_s d1, bd_s, d2, gd_s (inb_n (by omega) (by omega)), cl_n (by omega), e1, isWhole_s hm hw e2, bd_s, if_bi, b3, ck_s b1, bd_s, nI_add, b2, gd_s (inb_n (by omega) (by omega)), hx, bd_s, lt, lt, cl_n (by omega), h2 k (by omega), nI_l hf, lN_mul, lN_add, show lN s + 0 = lN s from lN_add s 0, ad_1, ih n (k + 1) s (by omega) (by omega), ih n (k + 1) _ (by omega) (by omega), smF]
    show (if me lo (wl X w) (P k) = true then _ else _) = _
    unfold g1
    cases me lo (wl X w) (P k) with
    | true =>
      rw [if_pos rfl, if_pos rfl, Nat.mul_one, Nat.mul_add, Nat.mul_comm fac (R k), Nat.add_assoc]
    | false =>
      rw [if_neg (by decide), if_neg (by decide), Nat.mul_zero, Nat.zero_add]
def cW (X : Lex) (lo : Bool) (st : Nat → Bool) (w : Nat) : Nat → Nat → Nat := cnt (nxW X lo st w) (fnW X lo w) (ns X)
theorem Ng_c {st : Nat → Bool} (c p : Nat) : Ng X lo st w (cW X lo st w c) p (ns X) 0 = cW X lo st w (c + 1) p := by
  unfold cW
  rw [cnt]
  rfl
theorem Ng_1 (hX : WFX X) {st : Nat → Bool} (p : Nat) : Ng X lo st w (g1 X lo w) p (ns X) 0 = cW X lo st w 1 p := by
  rw [← Ng_c]
  unfold Ng
  apply smF_congr
  intro s _ _
  cases e : nxW X lo st w s p with
  | none => rfl
  | some q =>
    obtain ⟨k1, k2⟩ := nxW_lt hX s p q e
    show g1 X lo w q = cnt (nxW X lo st w) (fnW X lo w) (ns X) 0 q
    rw [cnt]
    unfold g1 fnW
    rw [decide_eq_true (by omega), Bool.true_and]
theorem par (nn : Nat) (h1 : 1 ≤ nn) (h9 : nn ≤ 9) : (if (nI nn - nI nn / 2 * 2) = 1 then (some 0 : Option Int32) else some 512) = some (nI (if nn % 2 = 1 then 0 else 512)) := by
  have : ∀ k, k < 10 → (if (nI k - nI k / 2 * 2) = 1 then (some 0 : Option Int32) else some 512) = some (nI (if k % 2 = 1 then 0 else 512)) := by decide +kernel
  exact this nn (by omega)
def facs (y9 nn : Nat) : Nat := if 9 ≤ nn then 1 else 1 + y9
set_option maxHeartbeats 1000000 in
theorem w129 (hw : w < nw X) {y9 M : Nat} {P : Nat → Nat} (hM512 : M ≤ 512) (hy : y9 < 100) : ∀ (d n nn s : Nat) (V : Vx) (R : Nat → Nat), nn + d = 10 → d < n → 1 ≤ nn → MwAt T V X lo m → ExD V X lo (stM m) w M P → (∀ j, j < M → aL V 178 ((if nn % 2 = 1 then 0 else 512) + j) = lN (R j)) → (∀ c, Wt R (cW X lo (stM m) w c) P M = cW X lo (stM m) w (nn - 1 + c) 0) →
    ∃ (V' : Vx), Mo_writings_L129 T 166 (nI w) (nI y9) n V (lN s) (nI nn) = some (lN (s + smF (fun n => facs y9 n * cW X lo (stM m) w n 0) d nn), V') ∧ FrN V V' := by
  intro d
  induction d with
  | zero =>
    intro n nn s V R hd hn h1 hm hE hR hW
    obtain ⟨n, rfl⟩ : ∃ m, n = m + 1 := ⟨n - 1, by omega⟩
    refine ⟨V, ?_, FrN.rf⟩
    rw [Mo_writings_L129, show (10 : Int32) = nI 10 from rfl, if_le (by omega) (by omega), if_pos (by omega), smF]
    rfl
  | succ d ih =>
    intro n nn s V R hd hn h1 hm hE hR hW
    obtain ⟨n, rfl⟩ : ∃ m, n = m + 1 := ⟨n - 1, by omega⟩
    obtain ⟨fr_, hfr⟩ : ∃ f, f = if nn % 2 = 1 then 0 else 512 := ⟨_, rfl⟩
    obtain ⟨t, ht⟩ : ∃ t, t = 512 - fr_ := ⟨_, rfl⟩
    have hft : (fr_ = 0 ∧ t = 512) ∨ (fr_ = 512 ∧ t = 0) := by
      rw [ht, hfr]
      by_cases e : nn % 2 = 1
      · rw [if_pos e]; exact Or.inl ⟨rfl, rfl⟩
      · rw [if_neg e]; exact Or.inr ⟨rfl, rfl⟩
    rw [← hfr] at hR
    have hto : (512 : Int32) - nI fr_ = nI t := by
      rcases hft with ⟨a, b⟩ | ⟨a, b⟩
      · rw [a, b]; rfl
      · rw [a, b]; rfl
    obtain ⟨V1, p1, p2, p3⟩ := w164 (T := T) (nI w) (nI y9) (lN s) (nI nn) (nI fr_) (t := t) (M := M) (by omega) hM512 M FU 0 V (by omega) (by rw [← FU_big]; omega) hm.1 hE.1.1
    obtain ⟨V2, R2, q1, q2, q3, q4⟩ := w193 (T := T) (X := X) (lo := lo) (m := m) (w := w) (nI w) (nI y9) (lN s) (nI nn) (M := M) (P := P) (R0 := R) hft hM512 M FU 0 V1 (fun _ => 0) (by omega) (by rw [← FU_big]; omega) (hm.frn p2.1) (p2.ex hE) (fun j hj => by rw [p3, if_neg (by omega)]; exact hR j hj) (fun j hj => by rw [p3, if_pos (by omega)]; rfl)
    have hWt : ∀ g, Wt R2 g P M = Wt R (fun p => Ng X lo (stM m) w g p (ns X) 0) P M := by
      intro g
      rw [q4]
      unfold Wt
      rw [smF_zero M 0 (fun i _ _ => by rw [Nat.zero_mul]), Nat.zero_add]
    have hm2 := (hm.frn p2.1).frn q2.1
    have hE2 := q2.ex (p2.ex hE)
    have h283 := w283 (T := T) hw (y9 := y9) (nn := nn) (fac := facs y9 nn) (R := R2) (t := t) (by omega) hM512 (by omega) hy rfl hm2 hE2 q3 M FU 0 s (by omega) (by rw [← FU_big]; omega)
    have hsum : smF (fun k => R2 k * g1 X lo w (P k)) M 0 = cW X lo (stM m) w nn 0 := by
      have := hWt (g1 X lo w)
      rw [show (fun p => Ng X lo (stM m) w (g1 X lo w) p (ns X) 0) = cW X lo (stM m) w 1 from funext fun p => Ng_1 hm.2.1 p, hW 1, show nn - 1 + 1 = nn by omega] at this
      exact this
    rw [hsum] at h283
    have hpar2 : (if (nn + 1) % 2 = 1 then 0 else 512) = t := by
      rw [ht, hfr]
      by_cases e : nn % 2 = 1
      · rw [if_pos e, if_neg (by omega)]
      · rw [if_neg e, if_pos (by omega)]
    obtain ⟨V3, r1, r2⟩ := ih n (nn + 1) (s + facs y9 nn * cW X lo (stM m) w nn 0) V2 R2 (by omega) (by omega) (by omega) hm2 hE2 (fun j hj => by rw [hpar2]; exact q3 j hj) (fun c => by
      have := hWt (cW X lo (stM m) w c)
      rw [show (fun p => Ng X lo (stM m) w (cW X lo (stM m) w c) p (ns X) 0) = cW X lo (stM m) w (c + 1) from funext fun p => Ng_c c p, hW (c + 1)] at this
      rw [this, show nn - 1 + (c + 1) = nn + 1 - 1 + c by omega])
    refine ⟨V3, ?_, (p2.1.tr q2.1).tr r2⟩
    rw [Mo_writings_L129, show (10 : Int32) = nI 10 from rfl, if_le (by omega) (by omega), if_neg (by omega), par nn h1 (by omega), bd_s, ← hfr, lt, hto, show (0 : Int32) = nI 0 from rfl, p1, bd_s, q1, bd_s, h283, bd_s, ad_1, r1, smF, Nat.add_assoc]
/-- how many writings a word has -/
def wrN (X : Lex) (lo : Bool) (st : Nat → Bool) (w : Nat) : Nat := ttW X lo st w 0 * (1 + ctF (mk X st (wc X w)) (ns X) 0)
set_option maxHeartbeats 1000000 in
theorem mwritings_s (hw : w < nw X) {V : Vx} (hm : MwAt T V X lo m) : ∃ V', (bd (Mo_writings_L16 T V 166 (nI w) FU 0 0) (fun y9 => bd (Mo_explores T V 166 (nI w)) (fun V47 => bd (Mo_writings_L96 T 166 (nI w) y9 FU V47 0) (fun V53 => Mo_writings_L129 T 166 (nI w) y9 FU V53 0 1)))) = some (lN (wrN X lo (stM m) w), V') ∧ FrN V V' := by
  have hX := hm.2.1
  have n12 := hX.1
  obtain ⟨x1, x2, x3⟩ := hX.2.2.2.1 w hw
  have h16 := w16 hm hw (ns X) FU 0 0 (by omega) (by rw [← FU_big]; omega)
  rw [Nat.zero_add] at h16
  obtain ⟨y9, hy9⟩ : ∃ y, y = ctF (mk X (stM m) (wc X w)) (ns X) 0 := ⟨_, rfl⟩
  have hy : y9 ≤ ns X := by rw [hy9]; exact ctF_le _ _ _
  rw [← hy9] at h16
  obtain ⟨V1, M, P, p1, p2, p3⟩ := explores_s (T := T) hw hm
  have hM512 := p3.1.le
  have hm1 := hm.frm p2
  obtain ⟨V2, q1, q2, q3, q4, q5⟩ := w96 (T := T) (nI w) (nI y9) 512 FU 0 V1 (by omega) (by rw [← FU_big]; omega) hm1.1 (fun j hj => by omega)
  have hK : Kp V1 V2 := ⟨q2, q3, q4⟩
  have hP0 := p3.1.2.2.2.2 p3.2.1
  obtain ⟨V3, r1, r2⟩ := w129 (T := T) hw (y9 := y9) (M := M) (P := P) hM512 (by omega) 9 FU 1 0 V2 (fun j => if j = 0 then 1 else 0) (by omega) (by rw [← FU_big]; omega) (Nat.le_refl 1) (hm1.frn q2) (hK.ex p3) (fun j hj => by rw [if_pos (by decide), Nat.zero_add]; exact q5 j (by omega)) (fun c => by
    unfold Wt
    obtain ⟨M', hM'⟩ : ∃ M', M = M' + 1 := ⟨M - 1, by have := p3.2.1; omega⟩
    rw [hM', smF]
    dsimp only
    rw [if_pos rfl, Nat.one_mul, hP0, smF_zero _ _ (fun i i1 i2 => by rw [if_neg (by omega), Nat.zero_mul]), Nat.add_zero, show 1 - 1 + c = c by omega])
  refine ⟨V3, ?_, (p2.n.tr q2).tr r2⟩
  rw [show Mo_writings_L16 T V 166 (nI w) FU 0 0 = some (nI y9) from h16, bd_s, p1, bd_s, show Mo_writings_L96 T 166 (nI w) (nI y9) FU V1 0 = some V2 from q1, bd_s]
  have hs : 0 + smF (fun n => facs y9 n * cW X lo (stM m) w n 0) 9 1 = wrN X lo (stM m) w := by
    rw [Nat.zero_add, smF_last _ 8 1]
    have c9 : cW X lo (stM m) w (1 + 8) 0 = 0 := cnt_0 (K := (wl X w).length) (nxW_lt hX) _ _ (Nat.zero_le _) (by omega)
    have c0 : cW X lo (stM m) w 0 0 = 0 := by
      unfold cW
      rw [cnt]
      unfold fnW
      rw [if_neg (by simp)]
    rw [c9, Nat.mul_zero, Nat.add_zero, smF_congr (g := fun n => (1 + y9) * cW X lo (stM m) w n 0) 8 1 (fun i i1 i2 => by unfold facs; rw [if_neg (by omega)]), smF_mul]
    unfold wrN ttW tt
    rw [← hy9, Nat.mul_comm (1 + y9)]
    congr 1
    show smF (fun n => cW X lo (stM m) w n 0) 8 1 = cW X lo (stM m) w 0 0 + smF (fun n => cW X lo (stM m) w n 0) 8 1
    rw [c0, Nat.zero_add]
  rw [← hs]
  exact r1
end MWS
