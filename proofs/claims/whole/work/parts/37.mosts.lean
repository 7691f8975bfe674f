/-! ===== the Model: steps from all sets, the most letters told ===== -/
/-- all sets are met and the table of steps is whole -/
def ExD (V : Vx) (X : Lex) (lo : Bool) (st : Nat → Bool) (w M : Nat) (P : Nat → Nat) : Prop := ExI V X lo w M P ∧ 0 < M ∧ ∀ k i, k < M → i < ns X → NX V X lo st w M P k i
section MO
variable {T : Tx} {X : Lex} {lo : Bool} {m w : Nat}
theorem explores35 (hw : w < nw X) : ∀ (d n k M : Nat) (P : Nat → Nat) (V : Vx), k + d = 512 → d < n → k ≤ M → 0 < M → MwAt T V X lo m → ExI V X lo w M P → (∀ k' i', k' < k → i' < ns X → NX V X lo (stM m) w M P k' i') →
    ∃ (V' : Vx) (M' : Nat) (P' : Nat → Nat), Mo_explores_L35 T 166 (nI w) n V (nI k) = some V' ∧ FrM V V' ∧ ExD V' X lo (stM m) w M' P' := by
  intro d
  induction d with
  | zero =>
    intro n k M P V hk hn hkM h0 hm hE h1
    obtain ⟨n, rfl⟩ : ∃ m, n = m + 1 := ⟨n - 1, by omega⟩
    have hM512 := hE.le
    refine ⟨V, M, P, ?_, FrM.rf, hE, h0, fun k' i' q1 q2 => h1 k' i' (by omega) q2⟩
    rw [Mo_explores_L35, hE.1, if_le (by omega) (by omega), if_pos (by omega)]
  | succ d ih =>
    intro n k M P V hk hn hkM h0 hm hE h1
    obtain ⟨n, rfl⟩ : ∃ m, n = m + 1 := ⟨n - 1, by omega⟩
    have hM512 := hE.le
    by_cases e : M ≤ k
    · refine ⟨V, M, P, ?_, FrM.rf, hE, h0, fun k' i' q1 q2 => h1 k' i' (by omega) q2⟩
      rw [Mo_explores_L35, hE.1, if_le (by omega) (by omega), if_pos e]
    · have n12 := hm.2.1.1
      obtain ⟨V1, M1, P1, p1, p2, p3, p4, p5, p6⟩ := explores46 (T := T) hw (k := k) (ns X) FU 0 M P V (by omega) (by rw [← FU_big]; omega) (by omega) hm hE h1 (fun i' q => by omega)
      obtain ⟨V2, M2, P2, r1, r2, r3⟩ := ih n (k + 1) M1 P1 V1 (by omega) (by omega) (by omega) (by omega) (hm.frm p5) p2 p6
      refine ⟨V2, M2, P2, ?_, p5.tr r2, r3⟩
      rw [Mo_explores_L35, hE.1, if_le (by omega) (by omega), if_neg e, show (0 : Int32) = nI 0 from rfl, p1, bd_s, ad_1]
      exact r1
theorem explores2 (p1 : Int32) : ∀ (d n k : Nat) (V : Vx), k + d = 512 → d < n → MoSh T V → (∀ S, S < k → aI V 173 S = -1) → ∃ V', Mo_explores_L2 T 166 p1 n V (nI k) = some V' ∧ FrM V V' ∧ ∀ S, S < 512 → aI V' 173 S = -1 := by
  intro d
  induction d with
  | zero =>
    intro n k V hk hn hM h
    obtain ⟨n, rfl⟩ : ∃ m, n = m + 1 := ⟨n - 1, by omega⟩
    refine ⟨V, ?_, FrM.rf, fun S hS => h S (by omega)⟩
    rw [Mo_explores_L2, show (512 : Int32) = nI 512 from rfl, if_le (by omega) (by omega), if_pos (by omega)]
  | succ d ih =>
    intro n k V hk hn hM h
    obtain ⟨n, rfl⟩ : ∃ m, n = m + 1 := ⟨n - 1, by omega⟩
    have hM' := hM
    obtain ⟨-, -, -, -, -, -, ⟨b1, b2, b3⟩, -⟩ := hM'
    have hF : FrM V (wI V 173 k (-1)) := FrM.wI V (by decide)
    obtain ⟨V', g1, g2, g3⟩ := ih n (k + 1) (wI V 173 k (-1)) (by omega) (by omega) (hM.fr hF.1) (fun S hS => by
      rw [aI_wI]
      by_cases e : S = k
      · rw [if_pos ⟨rfl, e⟩]
      · rw [if_neg (fun z => e z.2)]; exact h S (by omega))
    refine ⟨V', ?_, hF.tr g2, g3⟩
    rw [Mo_explores_L2, show (512 : Int32) = nI 512 from rfl, if_le (by omega) (by omega), if_neg (by omega), b3, ck_s b1, bd_s, b2, gd_s (inb_n (by omega) (by omega)), lt, cl_n (by omega), ad_1]
    exact g1
theorem explores_s (hw : w < nw X) {V : Vx} (hm : MwAt T V X lo m) : ∃ (V' : Vx) (M : Nat) (P : Nat → Nat), Mo_explores T V 166 (nI w) = some V' ∧ FrM V V' ∧ ExD V' X lo (stM m) w M P := by
  obtain ⟨x1, x2, x3⟩ := hm.2.1.2.2.2.1 w hw
  obtain ⟨V1, p1, p2, p3⟩ := explores2 (T := T) (nI w) 512 FU 0 V (by omega) (by rw [← FU_big]; omega) hm.1 (fun S h => by omega)
  have hF2 : FrM V1 (sI V1 911 166 0) := FrM.sI V1 (by decide) (by decide)
  have hE0 : ExI (sI V1 911 166 0) X lo w 0 (fun _ => 0) := by
    refine ⟨by rw [fI_sI, if_pos ⟨rfl, rfl⟩]; rfl, fun k hk => by omega, fun S hS => Or.inl (by rw [aI_sI]; exact p3 S hS), ?_, fun h => by omega⟩
    rw [ctF_congr (g := fun _ => false) 512 0 (fun i _ hi => by rw [aI_sI, p3 i (by omega)]; rfl)]
    have : ∀ d j, ctF (fun _ => false) d j = 0 := by
      intro d
      induction d with
      | zero => intro j; rfl
      | succ d ih => intro j; rw [ctF, ih]; rfl
    exact this _ _
  obtain ⟨V2, M2, P2, k, q1, q2, q3, q4, q5, q6, q7, q8, q9⟩ := meets_s (T := T) ((hm.frm p2).frm hF2).1 x3 hE0 (SetRel.start lo (wl X w)) (fun _ => rfl)
  have hk0 := q9 rfl
  subst hk0
  obtain ⟨V3, M3, P3, r1, r2, r3⟩ := explores35 (T := T) hw 512 FU 0 M2 P2 V2 (by omega) (by rw [← FU_big]; omega) (Nat.zero_le _) q2 (((hm.frm p2).frm hF2).frm q7) q4 (fun k' i' z => by omega)
  refine ⟨V3, M3, P3, ?_, ((p2.tr hF2).tr q7).tr r2, r3⟩
  rw [Mo_explores, show (0 : Int32) = nI 0 from rfl, p1, bd_s, lt, show nI 0 = (0 : Int32) from rfl, show (1 : Int32) = nI 1 from rfl, q1, bd2_s]
  exact r1
theorem ExI.fr {V V' : Vx} {M : Nat} {P : Nat → Nat} (h : ExI V X lo w M P) (h1 : fI V' 911 166 = fI V 911 166) (h2 : ∀ i, aI V' 172 i = aI V 172 i) (h3 : ∀ i, aI V' 173 i = aI V 173 i) : ExI V' X lo w M P := by
  have a2 : aI V' 172 = aI V 172 := funext h2
  have a3 : aI V' 173 = aI V 173 := funext h3
  unfold ExI at h ⊢
  rw [a2, a3, h1]
  exact h
theorem ExD.fr {V V' : Vx} {st : Nat → Bool} {M : Nat} {P : Nat → Nat} (h : ExD V X lo st w M P) (h1 : fI V' 911 166 = fI V 911 166) (h2 : ∀ i, aI V' 172 i = aI V 172 i) (h3 : ∀ i, aI V' 173 i = aI V 173 i) (h4 : ∀ i, aI V' 174 i = aI V 174 i) : ExD V' X lo st w M P :=
  ⟨h.1.fr h1 h2 h3, h.2.1, fun k i q1 q2 => (h.2.2 k i q1 q2).mo q1 (Nat.le_refl M) (fun _ _ => rfl) (h4 _)⟩
/-- none as -1 -/
def oM (o : Option Nat) : Int32 := match o with
  | none => -1
  | some v => nI v
theorem ix512 (k i : Nat) : (512 * nI k) + nI i = nI (512 * k + i) := by
  rw [show (512 : Int32) = nI 512 from rfl, nI_mul, nI_add]
/-- the row of the most letters told by n signs -/
def MsI (V : Vx) (X : Lex) (lo : Bool) (st : Nat → Bool) (w M : Nat) (P : Nat → Nat) (n : Nat) : Prop := ∀ k, k < M → (0 < n ∨ 0 < P k) → aI V 175 (512 * n + k) = oM (mW X lo st w n (P k))
theorem mosts7 (hw : w < nw X) {M : Nat} {P : Nat → Nat} : ∀ (d n k : Nat) (V : Vx), k + d = M → d < n → MwAt T V X lo m → ExD V X lo (stM m) w M P → (∀ k', k' < k → 0 < P k' → aI V 175 k' = oM (mW X lo (stM m) w 0 (P k'))) →
    ∃ V', Mo_mosts_L7 T 166 (nI w) n V (nI k) = some V' ∧ FrM V V' ∧ ExD V' X lo (stM m) w M P ∧ MsI V' X lo (stM m) w M P 0 := by
  intro d
  induction d with
  | zero =>
    intro n k V hk hn hm hE h
    obtain ⟨n, rfl⟩ : ∃ m, n = m + 1 := ⟨n - 1, by omega⟩
    have hM512 := hE.1.le
    refine ⟨V, ?_, FrM.rf, hE, fun k' q1 q2 => ?_⟩
    · rw [Mo_mosts_L7, hE.1.1, if_le (by omega) (by omega), if_pos (by omega)]
    · rw [Nat.mul_zero, Nat.zero_add]
      exact h k' (by omega) (by omega)
  | succ d ih =>
    intro n k V hk hn hm hE h
    obtain ⟨n, rfl⟩ : ∃ m, n = m + 1 := ⟨n - 1, by omega⟩
    have hM512 := hE.1.le
    have hSh := hm.1
    obtain ⟨-, -, -, -, -, ⟨d1, d2, d3⟩, -, -, ⟨f1, f2, f3⟩, -⟩ := hSh
    obtain ⟨S, g1, g2⟩ := hE.1.2.1 k (by omega)
    obtain ⟨v, hv⟩ : ∃ v : Int32, v = if me lo (wl X w) (P k) = true then 0 else -1 := ⟨_, rfl⟩
    have hF : FrM V (wI V 175 k v) := FrM.wI V (by decide)
    obtain ⟨V', p1, p2, p3, p4⟩ := ih n (k + 1) (wI V 175 k v) (by omega) (by omega) (hm.frm hF) (hE.fr rfl (fun i => by rw [aI_wI, if_neg (fun z => absurd z.1 (by decide))]) (fun i => by rw [aI_wI, if_neg (fun z => absurd z.1 (by decide))]) (fun i => by rw [aI_wI, if_neg (fun z => absurd z.1 (by decide))])) (fun k' q1 q2 => by
      rw [aI_wI]
      by_cases e : k' = k
      · rw [if_pos ⟨rfl, e⟩, hv, e]
        unfold mW
        rw [mst]
        unfold fnW
        rw [decide_eq_true (by rw [← e]; exact q2), Bool.true_and]
        cases me lo (wl X w) (P k) <;> rfl
      · rw [if_neg (fun z => e z.2)]; exact h k' (by omega) q2)
    refine ⟨V', ?_, hF.tr p2, p3, p4⟩
    rw [Mo_mosts_L7, hE.1.1, if_le (by omega) (by omega), if_neg (by omega), f3, ck_s f1, bd_s, d3, ck_s d1, bd_s, d2, gd_s (inb_n (by omega) (by omega)), cl_n (by omega), g1, isWhole_s hm hw g2, bd_s, if_bi, f2, gd_s (inb_n (by omega) (by omega)), gd_s (inb_n (by omega) (by omega)), lt, lt, ad_1, ← p1, hv]
    show (if me lo (wl X w) (P k) = true then _ else _) = _
    cases me lo (wl X w) (P k) <;> rfl
theorem oM_lt (o : Option Nat) (h : ∀ v, o = some v → v < 2 ^ 31) {α : Type} (x y : α) : (if oM o < 0 then x else y) = if o = none then x else y := by
  cases o with
  | none => rw [if_pos rfl]; rfl
  | some v => rw [show oM (some v) = nI v from rfl, if_neg (n_lt (h v rfl)), if_neg (by simp)]
theorem mW_le (hX : WFX X) (h8 : (wl X w).length ≤ 8) {st : Nat → Bool} {n p v : Nat} (hp : p ≤ (wl X w).length) (h : mW X lo st w n p = some v) : v ≤ 8 := by
  have := mst_told (K := (wl X w).length) (fun s p q h => by obtain ⟨-, -, -, -, -, h1, h2⟩ := pbS_lt hX h; exact ⟨h1, h2⟩) _ _ _ hp h
  omega
set_option maxHeartbeats 1000000 in
theorem mosts70 (hw : w < nw X) {M : Nat} {P : Nat → Nat} {V : Vx} (hm : MwAt T V X lo m) (hE : ExD V X lo (stM m) w M P) {nn k : Nat} (hnn : nn < 9) (hk : k < M) (hP : P k ≤ (wl X w).length) (hMs : MsI V X lo (stM m) w M P nn) : ∀ (d n i : Nat) (o : Option Nat), i + d = ns X → d < n → (∀ v, o = some v → v ≤ 100) →
    Mo_mosts_L70 T V 166 (nI (nn + 1)) (nI k) n (oM o) (nI i) = some (oM (bs (nxW X lo (stM m) w) (ulW X) (mW X lo (stM m) w nn) (P k) d i o)) := by
  have hM512 := hE.1.le
  have hh := hm
  obtain ⟨hSh, hX, ⟨hns, -⟩, -⟩ := hh
  obtain ⟨-, ⟨c1, c2, c3⟩, -, -, -, -, -, ⟨g1, g2, g3⟩, ⟨f1, f2, f3⟩, -⟩ := hSh
  obtain ⟨x1, x2, x3⟩ := hX.2.2.2.1 w hw
  have n12 := hX.1
  intro d
  induction d with
  | zero =>
    intro n i o hi hn ho
    obtain ⟨n, rfl⟩ : ∃ m, n = m + 1 := ⟨n - 1, by omega⟩
    rw [Mo_mosts_L70, c3, ck_s c1, bd_s, c2, gd_s (show inb 164 167 = true by decide), show (164 : Int32).toNatClampNeg = 164 from rfl, hns, if_le (by omega) (by omega), if_pos (by omega), bs]
  | succ d ih =>
    intro n i o hi hn ho
    obtain ⟨n, rfl⟩ : ∃ m, n = m + 1 := ⟨n - 1, by omega⟩
    have hi' : i < ns X := by omega
    obtain ⟨y1, y2, y3, y4, y5⟩ := hX.2.2.1 i hi'
    rw [Mo_mosts_L70, c3, ck_s c1, bd_s, c2, gd_s (show inb 164 167 = true by decide), show (164 : Int32).toNatClampNeg = 164 from rfl, hns, if_le (by omega) (by omega), if_neg (by omega), g3, ck_s g1, bd_s, ix12, g2, gd_s (inb_n (by omega) (by omega)), cl_n (by omega), ad_1, bs, bS.eq_def]
    rcases hE.2.2 k i hk hi' with ⟨q1, q2⟩ | ⟨q, j, q1, q2, q3, q4⟩
    · rw [q1, q2, if_pos (by decide), bd_s, if_pos (by decide)]
      exact ih n (i + 1) o (by omega) (by omega) ho
    · obtain ⟨z1, z2⟩ := nxW_lt hX i (P k) q q1
      have hj := hMs j q3 (Or.inr (by omega))
      rw [q4] at hj
      have hmj : ∀ v, mW X lo (stM m) w nn q = some v → v < 2 ^ 31 := fun v hv => by
        have := mW_le hX x3 z2 hv
        omega
      rw [q1, q2, if_neg (n_lt (by omega)), f3, ck_s f1, bd_s, bd_s, g2, gd_s (inb_n (by omega) (by omega)), nI_pred, q2, ix512, f2, gd_s (inb_n (by omega) (by omega)), cl_n (by omega), hj, bd_s, oM_lt _ hmj]
      dsimp only
      cases ht : mW X lo (stM m) w nn q with
      | none =>
        rw [if_pos rfl]
        exact ih n (i + 1) o (by omega) (by omega) ho
      | some t =>
        have ht8 := mW_le hX x3 z2 ht
        rw [if_neg (by simp), soundLong_s hm hi', bd_s, bd_s, lt, show oM (some t) = nI t from rfl, nI_add]
        dsimp only
        cases o with
        | none =>
          rw [show oM none = (-1 : Int32) from rfl, if_neg (by
            rw [i_le, nI_toInt (by omega)]
            show ¬ ((t + (su X i).length : Nat) : Int) ≤ -1
            omega)]
          exact ih n (i + 1) (some (t + (su X i).length)) (by omega) (by omega) (fun v hv => by cases hv; omega)
        | some b =>
          have hb := ho b rfl
          rw [show oM (some b) = nI b from rfl, if_le (by omega) (by omega)]
          dsimp only
          by_cases e : t + (su X i).length ≤ b
          · rw [if_pos e, if_neg (show ¬ b < t + ulW X i by unfold ulW; omega)]
            exact ih n (i + 1) (some b) (by omega) (by omega) ho
          · rw [if_neg e, if_pos (show b < t + ulW X i by unfold ulW; omega)]
            exact ih n (i + 1) (some (t + (su X i).length)) (by omega) (by omega) (fun v hv => by cases hv; omega)
theorem ExI.pl {V : Vx} {M : Nat} {P : Nat → Nat} (h : ExI V X lo w M P) {k : Nat} (hk : k < M) : P k ≤ (wl X w).length := by
  obtain ⟨S, g1, g2⟩ := h.2.1 k hk
  exact g2.1
theorem mosts56 (hw : w < nw X) {M : Nat} {P : Nat → Nat} {nn : Nat} (hnn : nn < 9) : ∀ (d n k : Nat) (V : Vx), k + d = M → d < n → MwAt T V X lo m → ExD V X lo (stM m) w M P → (∀ n', n' ≤ nn → MsI V X lo (stM m) w M P n') → (∀ k', k' < k → aI V 175 (512 * (nn + 1) + k') = oM (mW X lo (stM m) w (nn + 1) (P k'))) →
    ∃ V', Mo_mosts_L56 T 166 (nI (nn + 1)) n V (nI k) = some V' ∧ FrM V V' ∧ ExD V' X lo (stM m) w M P ∧ ∀ n', n' ≤ nn + 1 → MsI V' X lo (stM m) w M P n' := by
  intro d
  induction d with
  | zero =>
    intro n k V hk hn hm hE hMs h
    obtain ⟨n, rfl⟩ : ∃ m, n = m + 1 := ⟨n - 1, by omega⟩
    have hM512 := hE.1.le
    refine ⟨V, ?_, FrM.rf, hE, fun n' hn' => ?_⟩
    · rw [Mo_mosts_L56, hE.1.1, if_le (by omega) (by omega), if_pos (by omega)]
    · by_cases e : n' ≤ nn
      · exact hMs n' e
      · rw [show n' = nn + 1 by omega]
        exact fun k' q1 _ => h k' (by omega)
  | succ d ih =>
    intro n k V hk hn hm hE hMs h
    obtain ⟨n, rfl⟩ : ∃ m, n = m + 1 := ⟨n - 1, by omega⟩
    have hM512 := hE.1.le
    have n12 := hm.2.1.1
    have hSh := hm.1
    obtain ⟨-, -, -, -, -, -, -, -, ⟨f1, f2, f3⟩, -⟩ := hSh
    have h70 := mosts70 hw hm hE hnn (k := k) (by omega) (hE.1.pl (by omega)) (hMs nn (Nat.le_refl nn)) (ns X) FU 0 none (by omega) (by rw [← FU_big]; omega) (fun v hv => by cases hv)
    have hF : FrM V (wI V 175 (512 * (nn + 1) + k) (oM (mW X lo (stM m) w (nn + 1) (P k)))) := FrM.wI V (by decide)
    obtain ⟨V', p1, p2, p3, p4⟩ := ih n (k + 1) _ (by omega) (by omega) (hm.frm hF) (hE.fr rfl (fun i => by rw [aI_wI, if_neg (fun z => absurd z.1 (by decide))]) (fun i => by rw [aI_wI, if_neg (fun z => absurd z.1 (by decide))]) (fun i => by rw [aI_wI, if_neg (fun z => absurd z.1 (by decide))])) (fun n' hn' k' q1 q2 => by
      rw [aI_wI, if_neg (fun z => by omega)]
      exact hMs n' hn' k' q1 q2) (fun k' q1 => by
      rw [aI_wI]
      by_cases e : k' = k
      · rw [if_pos ⟨rfl, by rw [e]⟩, e]
      · rw [if_neg (fun z => by omega)]; exact h k' (by omega))
    refine ⟨V', ?_, hF.tr p2, p3, p4⟩
    rw [Mo_mosts_L56, hE.1.1, if_le (by omega) (by omega), if_neg (by omega), show (-1 : Int32) = oM none from rfl, show (0 : Int32) = nI 0 from rfl, h70, bd_s, f3, ck_s f1, bd_s, ix512, f2, gd_s (inb_n (by omega) (by omega)), lt, cl_n (by omega), ad_1]
    exact p1
theorem mosts48 (hw : w < nw X) {M : Nat} {P : Nat → Nat} : ∀ (d n nn : Nat) (V : Vx), nn + d = 9 → d < n → MwAt T V X lo m → ExD V X lo (stM m) w M P → (∀ n', n' ≤ nn → MsI V X lo (stM m) w M P n') →
    ∃ V', Mo_mosts_L48 T 166 n V (nI (nn + 1)) = some V' ∧ FrM V V' ∧ ExD V' X lo (stM m) w M P ∧ ∀ n', n' ≤ 9 → MsI V' X lo (stM m) w M P n' := by
  intro d
  induction d with
  | zero =>
    intro n nn V hd hn hm hE hMs
    obtain ⟨n, rfl⟩ : ∃ m, n = m + 1 := ⟨n - 1, by omega⟩
    refine ⟨V, ?_, FrM.rf, hE, fun n' hn' => hMs n' (by omega)⟩
    rw [Mo_mosts_L48, show (10 : Int32) = nI 10 from rfl, if_le (by omega) (by omega), if_pos (by omega)]
  | succ d ih =>
    intro n nn V hd hn hm hE hMs
    obtain ⟨n, rfl⟩ : ∃ m, n = m + 1 := ⟨n - 1, by omega⟩
    have hM512 := hE.1.le
    obtain ⟨V1, p1, p2, p3, p4⟩ := mosts56 (T := T) hw (nn := nn) (by omega) M FU 0 V (by omega) (by rw [← FU_big]; omega) hm hE hMs (fun k' q => by omega)
    obtain ⟨V2, q1, q2, q3, q4⟩ := ih n (nn + 1) V1 (by omega) (by omega) (hm.frm p2) p3 p4
    refine ⟨V2, ?_, p2.tr q2, q3, q4⟩
    rw [Mo_mosts_L48, show (10 : Int32) = nI 10 from rfl, if_le (by omega) (by omega), if_neg (by omega), show (0 : Int32) = nI 0 from rfl, p1, bd_s, ad_1]
    exact q1
theorem mosts_s (hw : w < nw X) {V : Vx} (hm : MwAt T V X lo m) : ∃ (V' : Vx) (M : Nat) (P : Nat → Nat), Mo_mosts T V 166 (nI w) = some V' ∧ FrM V V' ∧ ExD V' X lo (stM m) w M P ∧ ∀ n', n' ≤ 9 → MsI V' X lo (stM m) w M P n' := by
  obtain ⟨V1, M, P, p1, p2, p3⟩ := explores_s (T := T) hw hm
  have hM512 := p3.1.le
  obtain ⟨V2, q1, q2, q3, q4⟩ := mosts7 (T := T) hw M FU 0 V1 (by omega) (by rw [← FU_big]; omega) (hm.frm p2) p3 (fun k' q => by omega)
  obtain ⟨V3, r1, r2, r3, r4⟩ := mosts48 (T := T) hw 9 FU 0 V2 (by omega) (by rw [← FU_big]; omega) ((hm.frm p2).frm q2) q3 (fun n' hn' => by rw [show n' = 0 by omega]; exact q4)
  refine ⟨V3, M, P, ?_, (p2.tr q2).tr r2, r3, r4⟩
  rw [Mo_mosts, p1, bd_s, show (0 : Int32) = nI 0 from rfl, q1, bd_s]
  exact r1
end MO
