/-! ===== the Model: all sets of places of a word ===== -/
/-- what the Model's questions change: its rows from 172 on, its numbers but the text's length and how many can be undone -/
def FrM (V V' : Vx) : Prop := Fr (fun y => y = 166 ∨ (172 ≤ y ∧ y ≤ 176)) V V' ∧ fI V' 900 166 = fI V 900 166 ∧ fI V' 907 166 = fI V 907 166
theorem FrM.rf {V : Vx} : FrM V V := ⟨Fr.rf, rfl, rfl⟩
theorem FrM.tr {V V1 V2 : Vx} (h : FrM V V1) (h2 : FrM V1 V2) : FrM V V2 := ⟨h.1.tr h2.1, h2.2.1.trans h.2.1, h2.2.2.trans h.2.2⟩
theorem FrM.wI (V : Vx) {a i : Nat} {v : Int32} (h : 172 ≤ a ∧ a ≤ 176) : FrM V (wI V a i v) := ⟨Fr.wI _ _ _ _ (Or.inr h), rfl, rfl⟩
theorem FrM.sI (V : Vx) {f : Nat} {v : Int32} (h : f ≠ 900) (h2 : f ≠ 907) : FrM V (sI V f 166 v) := by
  refine ⟨Fr.sI _ _ _ _ (Or.inl rfl), ?_, ?_⟩
  · rw [fI_sI, if_neg (fun z => h z.1.symm)]
  · rw [fI_sI, if_neg (fun z => h2 z.1.symm)]
theorem MwAt.frm {T : Tx} {V V' : Vx} {X : Lex} {lo : Bool} {m : Nat} (h : MwAt T V X lo m) (hF : FrM V V') : MwAt T V' X lo m := h.fr hF.1 (by omega) (by omega)
theorem ctF_le (f : Nat → Bool) : ∀ (d j : Nat), ctF f d j ≤ d := by
  intro d
  induction d with
  | zero => intro j; exact Nat.le_refl 0
  | succ d ih =>
    intro j
    rw [ctF]
    have := ih (j + 1)
    by_cases e : f j = true
    · rw [if_pos e]; omega
    · rw [if_neg e]; omega
theorem ctF_congr {f g : Nat → Bool} : ∀ (d j : Nat), (∀ i, j ≤ i → i < j + d → f i = g i) → ctF f d j = ctF g d j := by
  intro d
  induction d with
  | zero => intro j _; rfl
  | succ d ih => intro j h; rw [ctF, ctF, ih (j + 1) (fun i q1 q2 => h i (by omega) (by omega)), h j (Nat.le_refl j) (by omega)]
theorem ctF_up {f g : Nat → Bool} (k : Nat) (hk : f k = false) (hg : g k = true) (hfg : ∀ i, i ≠ k → g i = f i) : ∀ (d j : Nat), j ≤ k → k < j + d → ctF g d j = ctF f d j + 1 ∧ ctF f d j < d := by
  intro d
  induction d with
  | zero => intro j h1 h2; omega
  | succ d ih =>
    intro j h1 h2
    rw [ctF, ctF]
    by_cases e : j = k
    · subst e
      rw [hg, hk, if_pos rfl, if_neg (by decide), ctF_congr (g := f) d (j + 1) (fun i q1 q2 => hfg i (by omega))]
      have := ctF_le f d (j + 1)
      omega
    · obtain ⟨i1, i2⟩ := ih (j + 1) (by omega) (by omega)
      rw [hfg j e, i1]
      by_cases e2 : f j = true
      · rw [if_pos e2]; omega
      · rw [if_neg e2]; omega
theorem SetRel.uniq {lo : Bool} {w : List Nat} {S p q : Nat} (h : SetRel lo w S (some p)) (h2 : SetRel lo w S (some q)) : p = q := by
  have a1 := (h.2.2 q h2.2.1).1
  have a2 := (h2.2.2 p h.2.1).1
  omega
theorem SetRel.pos {lo : Bool} {w : List Nat} {S p : Nat} (h : SetRel lo w S (some p)) : 0 < S := by
  apply Nat.pos_of_ne_zero
  intro z
  have := h.2.1
  rw [z, Nat.zero_testBit] at this
  cases this
/-- the sets met so far: how many, the place of each -/
def ExI (V : Vx) (X : Lex) (lo : Bool) (w M : Nat) (P : Nat → Nat) : Prop :=
  fI V 911 166 = nI M ∧ (∀ k, k < M → ∃ S, aI V 172 k = nI S ∧ SetRel lo (wl X w) S (some (P k))) ∧
  (∀ S, S < 512 → aI V 173 S = -1 ∨ ∃ k, k < M ∧ aI V 173 S = nI k ∧ aI V 172 k = nI S) ∧ ctF (fun S => !(decide (aI V 173 S = -1))) 512 0 = M ∧ (0 < M → P 0 = 0)
theorem ExI.le {V : Vx} {X : Lex} {lo : Bool} {w M : Nat} {P : Nat → Nat} (h : ExI V X lo w M P) : M ≤ 512 := by
  rw [← h.2.2.2.1]
  exact ctF_le _ _ _
section EX
variable {T : Tx} {X : Lex} {lo : Bool} {m w : Nat}
theorem nI_ne_m1 {k : Nat} (hk : k < 2 ^ 31) : ¬ nI k = -1 := by
  intro z
  have := nI_pos hk
  rw [z] at this
  exact this (by decide)
set_option maxHeartbeats 1000000 in
theorem meets_s {V : Vx} (hM : MoSh T V) (h8 : (wl X w).length ≤ 8) {M : Nat} {P : Nat → Nat} (h : ExI V X lo w M P) {S p : Nat} (hS : SetRel lo (wl X w) S (some p)) (h0 : M = 0 → p = 0) :
    ∃ (V' : Vx) (M' : Nat) (P' : Nat → Nat) (k : Nat), Mo_meets T V 166 (nI S) = some (nI k, V') ∧ k < M' ∧ P' k = p ∧ ExI V' X lo w M' P' ∧ M ≤ M' ∧ (∀ j, j < M → P' j = P j) ∧ FrM V V' ∧ (∀ i, aI V' 174 i = aI V 174 i) ∧ (M = 0 → k = 0) := by
  have hM' := hM
  obtain ⟨-, -, -, -, -, ⟨a1, a2, a3⟩, ⟨b1, b2, b3⟩, -⟩ := hM'
  have hl := hS.lt h8
  have hM512 := h.le
  obtain ⟨e1, e2, e3, e4, e5⟩ := h
  rcases e3 S hl with hn | ⟨k, k1, k2, k3⟩
  · have hct := ctF_up (f := fun S => !(decide (aI V 173 S = -1))) (g := fun S' => !(decide (aI (wI V 173 S (nI M)) 173 S' = -1))) S (by simp [hn]) (by
      show (!(decide (aI (wI V 173 S (nI M)) 173 S = -1))) = true
      rw [aI_wI, if_pos ⟨rfl, rfl⟩, decide_eq_false (nI_ne_m1 (by omega))]
      rfl) (fun i hi => by
      show (!(decide (aI (wI V 173 S (nI M)) 173 i = -1))) = !(decide (aI V 173 i = -1))
      rw [aI_wI, if_neg (fun z => hi z.2)]) 512 0 (Nat.zero_le _) (by omega)
    rw [e4] at hct
    obtain ⟨ct1, ct2⟩ := hct
    obtain ⟨V1, hV1⟩ : ∃ V1, V1 = sI (wI (wI V 173 S (nI M)) 172 M (nI S)) 911 166 (nI (M + 1)) := ⟨_, rfl⟩
    have A172 : ∀ i, aI V1 172 i = if i = M then nI S else aI V 172 i := by
      intro i
      rw [hV1, aI_sI, aI_wI]
      by_cases e : i = M
      · rw [if_pos ⟨rfl, e⟩, if_pos e]
      · rw [if_neg (fun z => e z.2), if_neg e, aI_wI, if_neg (fun z => absurd z.1 (by decide))]
    have A173 : ∀ i, aI V1 173 i = aI (wI V 173 S (nI M)) 173 i := by
      intro i
      rw [hV1, aI_sI, aI_wI _ 172, if_neg (fun z => absurd z.1 (by decide))]
    have hF : FrM V V1 := by
      rw [hV1]
      exact ((FrM.wI V (by decide)).tr (FrM.wI _ (by decide))).tr (FrM.sI _ (by decide) (by decide))
    refine ⟨V1, M + 1, va_up P M p, M, ?_, by omega, by unfold va_up; rw [if_pos rfl], ⟨?_, ?_, ?_, ?_, ?_⟩, by omega, fun j hj => by unfold va_up; rw [if_neg (by omega)], hF, fun i => ?_, fun z => z⟩
    · rw [Mo_meets, b3, ck_s b1, bd_s, b2, gd_s (inb_n (by omega) (by omega)), cl_n (by omega), hn, if_neg (by decide), bd_s, b2, gd_s (inb_n (by omega) (by omega)), lt, fR_wI, a3, ck_s a1, bd_s, fI_wI, e1, a2, gd_s (inb_n (by omega) (by omega)), lt, cl_n (by omega), lt, fI_wI, fI_wI, e1, nI_1, fR_sI, fR_wI, fR_wI, b3, ck_s b1, bd_s, b2, gd_s (inb_n (by omega) (by omega)), ← hV1, A173, aI_wI, if_pos ⟨rfl, rfl⟩]
    · rw [hV1, fI_sI, if_pos ⟨rfl, rfl⟩]
    · intro k hk
      unfold va_up
      by_cases e : k = M
      · rw [if_pos e]
        exact ⟨S, by rw [A172, if_pos e], hS⟩
      · rw [if_neg e]
        obtain ⟨S', g1, g2⟩ := e2 k (by omega)
        exact ⟨S', by rw [A172, if_neg e]; exact g1, g2⟩
    · intro S' hS'
      rw [A173, aI_wI]
      by_cases e : S' = S
      · rw [if_pos ⟨rfl, e⟩]
        exact Or.inr ⟨M, by omega, rfl, by rw [A172, if_pos rfl, e]⟩
      · rw [if_neg (fun z => e z.2)]
        rcases e3 S' hS' with z | ⟨k, k1, k2, k3⟩
        · exact Or.inl z
        · exact Or.inr ⟨k, by omega, k2, by rw [A172, if_neg (by omega)]; exact k3⟩
    · rw [← ct1]
      apply ctF_congr
      intro i _ _
      rw [A173]
    · intro _
      unfold va_up
      by_cases e : 0 = M
      · rw [if_pos e]; exact h0 e.symm
      · rw [if_neg e]; exact e5 (by omega)
    · rw [hV1, aI_sI, aI_wI, if_neg (fun z => absurd z.1 (by decide)), aI_wI, if_neg (fun z => absurd z.1 (by decide))]
  · obtain ⟨S', g1, g2⟩ := e2 k k1
    have hSS : S' = S := by
      rw [k3] at g1
      exact ((nI_eq (by omega) (by have := g2.lt h8; omega)).mp g1).symm
    rw [hSS] at g2
    refine ⟨V, M, P, k, ?_, k1, g2.uniq hS, ⟨e1, e2, e3, e4, e5⟩, Nat.le_refl M, fun _ _ => rfl, FrM.rf, fun _ => rfl, fun z => by omega⟩
    rw [Mo_meets, b3, ck_s b1, bd_s, b2, gd_s (inb_n (by omega) (by omega)), cl_n (by omega), k2, if_n0 (by omega), bd_s, b2, gd_s (inb_n (by omega) (by omega)), k2]
/-- an entry of the table of steps -/
def NX (V : Vx) (X : Lex) (lo : Bool) (st : Nat → Bool) (w M : Nat) (P : Nat → Nat) (k i : Nat) : Prop := (nxW X lo st w i (P k) = none ∧ aI V 174 (12 * k + i) = -1) ∨ ∃ q j, nxW X lo st w i (P k) = some q ∧ aI V 174 (12 * k + i) = nI j ∧ j < M ∧ P j = q
theorem NX.mo {V V' : Vx} {X : Lex} {lo : Bool} {st : Nat → Bool} {w M M' : Nat} {P P' : Nat → Nat} {k i : Nat} (h : NX V X lo st w M P k i) (hk : k < M) (hM : M ≤ M') (hP : ∀ j, j < M → P' j = P j) (ha : aI V' 174 (12 * k + i) = aI V 174 (12 * k + i)) : NX V' X lo st w M' P' k i := by
  unfold NX at h ⊢
  rw [ha, hP k hk]
  rcases h with h | ⟨q, j, h1, h2, h3, h4⟩
  · exact Or.inl h
  · exact Or.inr ⟨q, j, h1, h2, by omega, by rw [hP j h3]; exact h4⟩
theorem ix12 (k i : Nat) : (12 * nI k) + nI i = nI (12 * k + i) := by
  rw [show (12 : Int32) = nI 12 from rfl, nI_mul, nI_add]
set_option maxHeartbeats 1000000 in
theorem explores46 (hw : w < nw X) {k : Nat} : ∀ (d n i M : Nat) (P : Nat → Nat) (V : Vx), i + d = ns X → d < n → k < M → MwAt T V X lo m → ExI V X lo w M P → (∀ k' i', k' < k → i' < ns X → NX V X lo (stM m) w M P k' i') → (∀ i', i' < i → NX V X lo (stM m) w M P k i') →
    ∃ (V' : Vx) (M' : Nat) (P' : Nat → Nat), Mo_explores_L46 T 166 (nI w) (nI k) n V (nI i) = some V' ∧ ExI V' X lo w M' P' ∧ M ≤ M' ∧ (∀ j, j < M → P' j = P j) ∧ FrM V V' ∧ (∀ k' i', k' < k + 1 → i' < ns X → NX V' X lo (stM m) w M' P' k' i') := by
  intro d
  induction d with
  | zero =>
    intro n i M P V hi hn hk hm hE h1 h2
    obtain ⟨n, rfl⟩ : ∃ m, n = m + 1 := ⟨n - 1, by omega⟩
    have hh := hm
    obtain ⟨⟨-, ⟨c1, c2, c3⟩, -⟩, hX, ⟨hns, -⟩, -⟩ := hh
    have n12 := hX.1
    refine ⟨V, M, P, ?_, hE, Nat.le_refl M, fun _ _ => rfl, FrM.rf, fun k' i' q1 q2 => ?_⟩
    · rw [Mo_explores_L46, c3, ck_s c1, bd_s, c2, gd_s (show inb 164 167 = true by decide), show (164 : Int32).toNatClampNeg = 164 from rfl, hns, if_le (by omega) (by omega), if_pos (by omega)]
    · by_cases e : k' = k
      · rw [e]; exact h2 i' (by omega)
      · exact h1 k' i' (by omega) q2
  | succ d ih =>
    intro n i M P V hi hn hk hm hE h1 h2
    obtain ⟨n, rfl⟩ : ∃ m, n = m + 1 := ⟨n - 1, by omega⟩
    have hh := hm
    obtain ⟨hSh, hX, ⟨hns, -⟩, -⟩ := hh
    have hSh' := hSh
    obtain ⟨-, ⟨c1, c2, c3⟩, -, -, -, ⟨d1, d2, d3⟩, -, ⟨f1, f2, f3⟩, -⟩ := hSh'
    have n12 := hX.1
    have hi' : i < ns X := by omega
    have hM512 := hE.le
    obtain ⟨x1, x2, x3⟩ := hX.2.2.2.1 w hw
    obtain ⟨S, g1, g2⟩ := hE.2.1 k hk
    have hx : ∃ R, (bd (Mo_hasSound T V 166 (nI i)) (fun r42 => bd ((if r42 = 0 then some 0 else bd (Mo_isStruck T V 166 (nI i)) (fun r49 => (if r49 = 0 then bd (ck T 11 (fR V 908 166)) (fun r51 => gd (inb (nI k) (ln T r51)) (bd (Mo_steps T V 166 (nI w) (aI V r51 (nI k).toNatClampNeg) (nI i)) (fun r57 => some r57))) else some 0)))) (fun x : Int32 => some x))) = some (nI R) ∧ SetRel lo (wl X w) R (nxW X lo (stM m) w i (P k)) := by
      unfold nxW pbS
      by_cases e1 : sk X i = 2
      · refine ⟨0, ?_, by rw [if_pos (by rw [e1]; simp)]; rfl⟩
        rw [hasSound_s hm hi', bd_s, decide_eq_true e1, show bi (!true) = 0 from rfl, if_pos rfl, bd_s]; rfl
      · rw [hasSound_s hm hi', bd_s, decide_eq_false e1, show bi (!false) = 1 from rfl, if_neg (by decide), isStruck_s hm (by omega), bd_s, if_bi]
        by_cases e2 : stM m i = true
        · refine ⟨0, ?_, by rw [if_pos (by rw [e2]; rfl)]; rfl⟩
          rw [if_pos e2, bd_s]; rfl
        · refine ⟨stp lo (wl X w) (su X i) S, ?_, by rw [if_neg (by simp [e2])]; exact stp_spec g2⟩
          rw [if_neg e2, d3, ck_s d1, bd_s, d2, gd_s (inb_n (by omega) (by omega)), cl_n (by omega), g1, steps_s hm hw hi' g2, bd_s, bd_s]
    obtain ⟨R, hx1, hx2⟩ := hx
    have hRl := hx2.lt x3
    have hb : ∀ {γ : Type} (o : Option Int32) (f : Int32 → Option Int32) (kk : Int32 → Option γ), bd (bd o f) kk = bd o (fun y => bd (f y) kk) := by
      intro γ o f kk
      cases o <;> rfl
    have hb0 : ∀ (o : Option Int32) (f : Int32 → Option Int32), bd o (fun r => bd (f r) (fun x => some x)) = bd o f := by
      intro o f
      cases o with
      | none => rfl
      | some y => show bd (f y) (fun x => some x) = f y; cases f y <;> rfl
    rw [hb0] at hx1
    rw [Mo_explores_L46, c3, ck_s c1, bd_s, c2, gd_s (show inb 164 167 = true by decide), show (164 : Int32).toNatClampNeg = 164 from rfl, hns, if_le (by omega) (by omega), if_neg (by omega), ← hb, hx1, bd_s, f3, ck_s f1, bd_s, show (0 : Int32) = nI 0 from rfl, if_le (by omega) (by omega), ix12, f2, ad_1]
    cases hq : nxW X lo (stM m) w i (P k) with
    | none =>
      rw [hq] at hx2
      have hR0 : R = 0 := hx2
      have hF : FrM V (wI V 174 (12 * k + i) (-1)) := FrM.wI V (by decide)
      have hE' : ExI (wI V 174 (12 * k + i) (-1)) X lo w M P := by
        unfold ExI
        have a2 : aI (wI V 174 (12 * k + i) (-1)) 172 = aI V 172 := funext fun j => by rw [aI_wI, if_neg (fun z => absurd z.1 (by decide))]
        have a3 : aI (wI V 174 (12 * k + i) (-1)) 173 = aI V 173 := funext fun j => by rw [aI_wI, if_neg (fun z => absurd z.1 (by decide))]
        rw [a2, a3]
        exact hE
      obtain ⟨V', M', P', p1, p2, p3, p4, p5, p6⟩ := ih n (i + 1) M P (wI V 174 (12 * k + i) (-1)) (by omega) (by omega) hk (hm.frm hF) hE' (fun k' i' q1 q2 => (h1 k' i' q1 q2).mo (by omega) (Nat.le_refl M) (fun _ _ => rfl) (by rw [aI_wI, if_neg (fun z => by omega)])) (fun i' q1 => by
        by_cases e : i' = i
        · rw [e]; exact Or.inl ⟨hq, by rw [aI_wI, if_pos ⟨rfl, rfl⟩]⟩
        · exact (h2 i' (by omega)).mo hk (Nat.le_refl M) (fun _ _ => rfl) (by rw [aI_wI, if_neg (fun z => by omega)]))
      refine ⟨V', M', P', ?_, p2, p3, p4, hF.tr p5, p6⟩
      rw [if_pos (by omega), gd_s (inb_n (by omega) (by omega)), lt, cl_n (by omega)]
      exact p1
    | some q =>
      rw [hq] at hx2
      have hRp := hx2.pos
      obtain ⟨V1, M1, P1, j, m1, m2, m3, m4, m5, m6, m7, m8, -⟩ := meets_s hSh x3 hE hx2 (fun z => by omega)
      have hM1512 := m4.le
      have hF : FrM V1 (wI V1 174 (12 * k + i) (nI j)) := FrM.wI V1 (by decide)
      have hE' : ExI (wI V1 174 (12 * k + i) (nI j)) X lo w M1 P1 := by
        unfold ExI
        have a2 : aI (wI V1 174 (12 * k + i) (nI j)) 172 = aI V1 172 := funext fun j => by rw [aI_wI, if_neg (fun z => absurd z.1 (by decide))]
        have a3 : aI (wI V1 174 (12 * k + i) (nI j)) 173 = aI V1 173 := funext fun j => by rw [aI_wI, if_neg (fun z => absurd z.1 (by decide))]
        rw [a2, a3]
        exact m4
      obtain ⟨V', M', P', p1, p2, p3, p4, p5, p6⟩ := ih n (i + 1) M1 P1 (wI V1 174 (12 * k + i) (nI j)) (by omega) (by omega) (by omega) ((hm.frm m7).frm hF) hE' (fun k' i' q1 q2 => (h1 k' i' q1 q2).mo (by omega) m5 m6 (by rw [aI_wI, if_neg (fun z => by omega), m8])) (fun i' q1 => by
        by_cases e : i' = i
        · rw [e]; exact Or.inr ⟨q, j, by rw [m6 k hk]; exact hq, by rw [aI_wI, if_pos ⟨rfl, rfl⟩], m2, m3⟩
        · exact (h2 i' (by omega)).mo hk m5 m6 (by rw [aI_wI, if_neg (fun z => by omega), m8]))
      refine ⟨V', M', P', ?_, p2, by omega, fun j' hj' => by rw [p4 j' (by omega), m6 j' hj'], (m7.tr hF).tr p5, p6⟩
      rw [if_neg (by omega), m1, bd2_s, gd_s (inb_n (by omega) (by omega)), lt, cl_n (by omega)]
      exact p1
end EX
