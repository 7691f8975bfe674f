/-! ===== the Model: the least writing ===== -/
theorem nI_subn (a b : Nat) : nI (a + b) - nI a = nI b := by
  rw [← nI_add, Int32.add_comm, Int32.add_sub_cancel]
theorem ix512' (k : Nat) : 512 * nI k = nI (512 * k) := by
  rw [show (512 : Int32) = nI 512 from rfl, nI_mul]
section LE
variable {T : Tx} {X : Lex} {lo : Bool} {m w : Nat}
theorem oM_le (o : Option Nat) (h : ∀ v, o = some v → v < 2 ^ 31) {α : Type} (x y : α) : (if 0 ≤ oM o then x else y) = if o.isSome = true then x else y := by
  cases o with
  | none => rfl
  | some v => rw [show oM (some v) = nI v from rfl, if_pos (nI_pos' (h v rfl))]; rfl
theorem leasts7 (hw : w < nw X) {M : Nat} {P : Nat → Nat} {V : Vx} (hm : MwAt T V X lo m) (hE : ExD V X lo (stM m) w M P) (hMs : ∀ n', n' ≤ 9 → MsI V X lo (stM m) w M P n') : ∀ (d n nn : Nat), nn + d = 10 → d < n → 1 ≤ nn → Mo_leasts_L7 T V 166 (nI w) n (nI nn) = some (nI ((fsF (fun n => (mW X lo (stM m) w n 0).isSome) d nn).getD 10)) := by
  have hSh := hm.1
  obtain ⟨-, -, -, -, -, -, -, -, ⟨f1, f2, f3⟩, -⟩ := hSh
  obtain ⟨x1, x2, x3⟩ := hm.2.1.2.2.2.1 w hw
  have hP0 := hE.1.2.2.2.2 hE.2.1
  intro d
  induction d with
  | zero =>
    intro n nn hd hn h1
    obtain ⟨n, rfl⟩ : ∃ m, n = m + 1 := ⟨n - 1, by omega⟩
    rw [Mo_leasts_L7, show (10 : Int32) = nI 10 from rfl, if_le (by omega) (by omega), if_pos (by omega), fsF, show nn = 10 by omega]
    rfl
  | succ d ih =>
    intro n nn hd hn h1
    obtain ⟨n, rfl⟩ : ∃ m, n = m + 1 := ⟨n - 1, by omega⟩
    have h0 := hMs nn (by omega) 0 hE.2.1 (Or.inl (by omega))
    rw [hP0, Nat.add_zero] at h0
    rw [Mo_leasts_L7, show (10 : Int32) = nI 10 from rfl, if_le (by omega) (by omega), if_neg (by omega), f3, ck_s f1, bd_s, ix512', f2, gd_s (inb_n (by omega) (by omega)), cl_n (by omega), h0, oM_le _ (fun v hv => by have := mW_le hm.2.1 x3 (Nat.zero_le _) hv; omega), ad_1, ih n (nn + 1) (by omega) (by omega) (by omega), fsF]
    cases (mW X lo (stM m) w nn 0).isSome <;> rfl
set_option maxHeartbeats 1000000 in
theorem leasts92 (hw : w < nw X) {M : Nat} {P : Nat → Nat} {V : Vx} (hm : MwAt T V X lo m) (hE : ExD V X lo (stM m) w M P) {a f k v : Nat} (hMs : MsI V X lo (stM m) w M P f) (ha : a < M) (hf : f ≤ 8) (hv : v < 100) {s0 : Nat} : ∀ (d n i : Nat), i + d = ns X → d < n → fsF (cdB (nxW X lo (stM m) w) (ulW X) (mW X lo (stM m) w f) (P a) v) d i = some s0 → Mo_leasts_L92 T V 166 (nI (k + (f + 1))) (nI a) (nI k) (nI v) n (nI i) = some (nI s0) := by
  have hM512 := hE.1.le
  have hSh := hm.1
  obtain ⟨-, -, -, -, -, -, -, ⟨g1, g2, g3⟩, ⟨f1, f2, f3⟩, -⟩ := hSh
  have hX := hm.2.1
  have n12 := hX.1
  obtain ⟨x1, x2, x3⟩ := hX.2.2.2.1 w hw
  intro d
  induction d with
  | zero => intro n i hi hn h; cases h
  | succ d ih =>
    intro n i hi hn h
    obtain ⟨n, rfl⟩ : ∃ m, n = m + 1 := ⟨n - 1, by omega⟩
    have hi' : i < ns X := by omega
    obtain ⟨y1, y2, y3, y4, y5⟩ := hX.2.2.1 i hi'
    rw [fsF] at h
    rw [Mo_leasts_L92, g3, ck_s g1, bd_s, ix12, g2, gd_s (inb_n (by omega) (by omega)), cl_n (by omega), ad_1]
    rcases hE.2.2 a i ha hi' with ⟨q1, q2⟩ | ⟨q, j, q1, q2, q3, q4⟩
    · rw [q2, if_pos (by decide)]
      rw [if_neg (by unfold cdB; rw [q1]; exact Bool.false_ne_true)] at h
      exact ih n (i + 1) (by omega) (by omega) h
    · obtain ⟨z1, z2⟩ := nxW_lt hX i (P a) q q1
      have hj := hMs j q3 (Or.inr (by omega))
      rw [q4] at hj
      have hmj : ∀ v, mW X lo (stM m) w f q = some v → v < 2 ^ 31 := fun v hv => by
        have := mW_le hX x3 z2 hv
        omega
      rw [q2, if_neg (n_lt (by omega)), f3, ck_s f1, bd_s, bd_s, g2, gd_s (inb_n (by omega) (by omega)), nI_subn, nI_pred, q2, ix512, f2, gd_s (inb_n (by omega) (by omega)), cl_n (by omega), hj, oM_lt _ hmj]
      cases ht : mW X lo (stM m) w f q with
      | none =>
        rw [if_pos rfl]
        rw [if_neg (by unfold cdB; rw [q1]; dsimp only; rw [ht]; exact Bool.false_ne_true)] at h
        exact ih n (i + 1) (by omega) (by omega) h
      | some t =>
        have ht8 := mW_le hX x3 z2 ht
        rw [if_neg (by simp), bd_s, bd_s, g2, gd_s (inb_n (by omega) (by omega)), q2, ix512, gd_s (inb_n (by omega) (by omega)), soundLong_s hm hi', bd_s, cl_n (by omega), hj, ht, show oM (some t) = nI t from rfl, nI_add, if_eqn (by omega) (by omega)]
        by_cases e : t + (su X i).length = v
        · rw [if_pos e]
          rw [if_pos (cdB_iff.mpr ⟨q, t, q1, ht, e⟩)] at h
          cases h
          rfl
        · rw [if_neg e]
          rw [if_neg (fun z => by
            obtain ⟨q', t', z1, z2, z3⟩ := cdB_iff.mp z
            rw [q1] at z1
            cases z1
            rw [ht] at z2
            cases z2
            exact e z3)] at h
          exact ih n (i + 1) (by omega) (by omega) h
def lsF (X : Lex) (lo : Bool) (st : Nat → Bool) (w f p : Nat) : List Nat := lst (nxW X lo st w) (ulW X) (fnW X lo w) (ns X) f p
set_option maxHeartbeats 1000000 in
theorem leasts66 (hw : w < nw X) {M : Nat} {P : Nat → Nat} : ∀ (f n a k v : Nat) (V : Vx), f < n → k + f ≤ 9 → a < M → MwAt T V X lo m → ExD V X lo (stM m) w M P → (∀ n', n' ≤ 9 → MsI V X lo (stM m) w M P n') → (0 < f ∨ 0 < P a) → mW X lo (stM m) w f (P a) = some v →
    ∃ V', Mo_leasts_L66 T 166 (nI (k + f)) n V (nI a) (nI k) = some (nI (k + f), V') ∧ FrM V V' ∧ (∀ g, fI V' g = fI V g) ∧ (∀ j, j < f → aI V' 176 (k + j) = nI (ch (lsF X lo (stM m) w f (P a)) j)) ∧ ∀ j, j < k → aI V' 176 j = aI V 176 j := by
  intro f
  induction f with
  | zero =>
    intro n a k v V hn hk ha hm hE hMs hp hv
    obtain ⟨n, rfl⟩ : ∃ m, n = m + 1 := ⟨n - 1, by omega⟩
    refine ⟨V, ?_, FrM.rf, fun _ => rfl, fun j hj => by omega, fun _ _ => rfl⟩
    rw [Mo_leasts_L66, if_le (by omega) (by omega), if_pos (by omega)]
  | succ f ih =>
    intro n a k v V hn hk ha hm hE hMs hp hv
    obtain ⟨n, rfl⟩ : ∃ m, n = m + 1 := ⟨n - 1, by omega⟩
    have hM512 := hE.1.le
    have hSh := hm.1
    obtain ⟨-, -, -, -, -, -, -, ⟨g1, g2, g3⟩, ⟨f1, f2, f3⟩, ⟨e1, e2, e3⟩, -⟩ := hSh
    have hX := hm.2.1
    have n12 := hX.1
    obtain ⟨x1, x2, x3⟩ := hX.2.2.2.1 w hw
    have hv8 := mW_le hX x3 (hE.1.pl ha) hv
    obtain ⟨s, q, t, s1, s2, s3, s4, s5⟩ := mst_first hv
    have h92 := leasts92 hw hm hE (k := k) (hMs f (by omega)) ha (by omega) (by omega) (ns X) FU 0 (by omega) (by rw [← FU_big]; omega) s1
    obtain ⟨q', j, z1, z2, z3, z4⟩ : ∃ q' j, nxW X lo (stM m) w s (P a) = some q' ∧ aI V 174 (12 * a + s) = nI j ∧ j < M ∧ P j = q' := by
      rcases hE.2.2 a s ha s2 with ⟨q1, q2⟩ | h
      · rw [s3] at q1; cases q1
      · exact h
    rw [s3] at z1
    cases z1
    have hq := (nxW_lt hX s (P a) q s3).1
    have hF : FrM V (wI V 176 k (nI s)) := FrM.wI V (by decide)
    have hoth : ∀ b i, b ≠ 176 → aI (wI V 176 k (nI s)) b i = aI V b i := fun b i hb => by rw [aI_wI, if_neg (fun z => hb z.1)]
    obtain ⟨V', p1, p2, p3, p4, p5⟩ := ih n j (k + 1) t (wI V 176 k (nI s)) (by omega) (by omega) z3 (hm.frm hF) (hE.fr rfl (fun i => hoth _ i (by decide)) (fun i => hoth _ i (by decide)) (fun i => hoth _ i (by decide))) (fun n' hn' k' q1 q2 => by rw [hoth _ _ (by decide)]; exact hMs n' hn' k' q1 q2) (Or.inr (by omega)) (by rw [z4]; exact s4)
    rw [z4] at p4
    have hls : lsF X lo (stM m) w (f + 1) (P a) = s :: lsF X lo (stM m) w f q := lst_s hv s1 s3
    refine ⟨V', ?_, hF.tr p2, fun g => by rw [p3]; rfl, fun i hi => ?_, fun i hi => by rw [p5 i (by omega), aI_wI, if_neg (fun z => by omega)]⟩
    · have hmost := hMs (f + 1) (by omega) a ha (Or.inl (by omega))
      rw [hv] at hmost
      rw [Mo_leasts_L66, if_le (by omega) (by omega), if_neg (by omega), f3, ck_s f1, bd_s, nI_subn, ix512, f2, gd_s (inb_n (by omega) (by omega)), lt, cl_n (by omega), hmost, show oM (some v) = nI v from rfl, show (0 : Int32) = nI 0 from rfl, h92, bd_s, e3, ck_s e1, bd_s, e2, gd_s (inb_n (by omega) (by omega)), lt, cl_n (by omega), fR_wI, g3, ck_s g1, bd_s, ix12, g2, gd_s (inb_n (by omega) (by omega)), lt, cl_n (by omega), hoth _ _ (by decide), z2, ad_1]
      rw [show k + (f + 1) = k + 1 + f by omega]
      exact p1
    · rw [hls]
      cases i with
      | zero =>
        rw [Nat.add_zero, p5 k (by omega), aI_wI, if_pos ⟨rfl, rfl⟩]
        rfl
      | succ i =>
        have := p4 i (by omega)
        rw [show k + 1 + i = k + (i + 1) by omega] at this
        rw [this]
        rfl
/-- what a least writing leaves in the Model -/
def LsAt (V : Vx) (X : Lex) (lo : Bool) (st : Nat → Bool) (w : Nat) : Prop := ∀ n, lfW X lo st w = some n → (∀ j, j < n → aI V 176 j = nI (ch (lsW X lo st w) j)) ∧ fI V 914 166 = nI ((wl X w).length - smF (fun i => (su X (ch (lsW X lo st w) i)).length) n 0)
theorem lfW_s {st : Nat → Bool} (hX : WFX X) (hw : w < nw X) {n : Nat} (h : lfW X lo st w = some n) : 1 ≤ n ∧ n ≤ 8 ∧ (lsW X lo st w).length = n ∧ (∀ x ∈ lsW X lo st w, x < ns X) ∧ lsW X lo st w = lsF X lo st w n 0 ∧ ∃ v, mW X lo st w n 0 = some v ∧ smF (fun i => (su X (ch (lsW X lo st w) i)).length) n 0 = v ∧ v ≤ (wl X w).length := by
  obtain ⟨x1, x2, x3⟩ := hX.2.2.2.1 w hw
  unfold lsW
  rw [h]
  obtain ⟨a1, a2, a3⟩ := fsF_in _ _ _ _ h
  obtain ⟨v, hv⟩ := Option.isSome_iff_exists.mp a3
  have hl := mst_len (K := (wl X w).length) (nxW_lt hX) _ _ _ (Nat.zero_le _) hv
  have ht := mst_told (K := (wl X w).length) (fun s p q h => by obtain ⟨-, -, -, -, -, h1, h2⟩ := pbS_lt hX h; exact ⟨h1, h2⟩) _ _ _ (Nat.zero_le _) hv
  obtain ⟨b1, b2, b3⟩ := lst_len _ _ _ hv
  exact ⟨a1, by omega, b1, b2, rfl, v, hv, b3, by omega⟩
set_option maxHeartbeats 1000000 in
theorem leasts_s (hw : w < nw X) {V : Vx} (hm : MwAt T V X lo m) : ∃ (V' : Vx), Mo_leasts T V 166 (nI w) = some (oI (lfW X lo (stM m) w), V') ∧ FrM V V' ∧ LsAt V' X lo (stM m) w := by
  obtain ⟨V1, M, P, p1, p2, p3, p4⟩ := mosts_s (T := T) hw hm
  have hm1 := hm.frm p2
  have h7 := leasts7 hw hm1 p3 p4 9 FU 1 (by omega) (by rw [← FU_big]; omega) (Nat.le_refl 1)
  have hP0 := p3.1.2.2.2.2 p3.2.1
  have hSh := hm1.1
  obtain ⟨-, -, -, -, -, -, -, -, ⟨f1, f2, f3⟩, -⟩ := hSh
  obtain ⟨x1, x2, x3⟩ := hm.2.1.2.2.2.1 w hw
  cases hlf : lfW X lo (stM m) w with
  | none =>
    refine ⟨V1, ?_, p2, fun n hn => by rw [hlf] at hn; cases hn⟩
    unfold lfW at hlf
    rw [hlf] at h7
    rw [Mo_leasts, p1, bd_s, show (1 : Int32) = nI 1 from rfl, h7, bd_s, show nI (none.getD 10) = 10 from rfl, if_pos rfl]
    rfl
  | some n =>
    obtain ⟨a1, a2, a3, a4, a5, v, a6, a7, a8⟩ := lfW_s hm.2.1 hw hlf
    obtain ⟨V2, hV2⟩ : ∃ V2, V2 = sI V1 914 166 (nI ((wl X w).length - v)) := ⟨_, rfl⟩
    have hF2 : FrM V1 V2 := by rw [hV2]; exact FrM.sI V1 (by decide) (by decide)
    have hI2 : ∀ b i, aI V2 b i = aI V1 b i := fun b i => by rw [hV2]; rfl
    obtain ⟨V3, r1, r2, r3, r4, r5⟩ := leasts66 (T := T) hw (M := M) (P := P) n FU 0 0 v V2 (by rw [← FU_big]; omega) (by omega) p3.2.1 (hm1.frm hF2) (p3.fr (by rw [hV2, fI_sI, if_neg (fun z => absurd z.1 (by decide))]) (fun i => hI2 _ i) (fun i => hI2 _ i) (fun i => hI2 _ i)) (fun n' hn' k' q1 q2 => by rw [hI2]; exact p4 n' hn' k' q1 q2) (Or.inl (by omega)) (by rw [hP0]; exact a6)
    rw [hP0] at r4
    refine ⟨V3, ?_, (p2.tr hF2).tr r2, fun n' hn' => ?_⟩
    · have hlf' := hlf
      unfold lfW at hlf'
      rw [hlf'] at h7
      have h0 := p4 n (by omega) 0 p3.2.1 (Or.inl (by omega))
      rw [hP0, Nat.add_zero, a6] at h0
      have hsub : nI (wl X w).length - nI v = nI ((wl X w).length - v) := by
        have := nI_subn v ((wl X w).length - v)
        rw [show v + ((wl X w).length - v) = (wl X w).length by omega] at this
        exact this
      rw [Mo_leasts, p1, bd_s, show (1 : Int32) = nI 1 from rfl, h7, bd_s, show (some n).getD 10 = n from rfl, show (10 : Int32) = nI 10 from rfl, if_eqn (by omega) (by omega), if_neg (by omega), long1_s hm1 hw, bd_s, f3, ck_s f1, bd_s, ix512', f2, gd_s (inb_n (by omega) (by omega)), lt, cl_n (by omega), h0, show oM (some v) = nI v from rfl, hsub, ← hV2]
      rw [Nat.zero_add] at r1
      exact r1
    · rw [hlf] at hn'
      cases hn'
      refine ⟨fun j hj => ?_, ?_⟩
      · have := r4 j hj
        rw [Nat.zero_add] at this
        rw [this, a5]
      · rw [r3, hV2, fI_sI, if_pos ⟨rfl, rfl⟩, a7]
end LE
