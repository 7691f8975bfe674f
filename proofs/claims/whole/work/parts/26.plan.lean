/-! ===== readings of an inscription ===== -/
/-- how many bits -/
def pp (m : Nat) : Nat := ctF (fun i => m.testBit i) 16 0
/-- the lowest bit -/
def lb (m : Nat) : Option Nat := fsF (fun i => m.testBit i) 8 0
theorem bitCount_0 : ∀ m, m < 256 → Ji_bitCount T0x V0x (nI m) = some (nI (pp m)) := by decide +kernel
theorem bitCount_s (T : Tx) (V : Vx) {m : Nat} (h : m < 256) : Ji_bitCount T V (nI m) = some (nI (pp m)) := bitCount_0 m h
theorem lowestBit_i (T : Tx) (V : Vx) (x : Int32) : ∀ n v, Re_lowestBit_L2 T V x n v = Re_lowestBit_L2 T0x V0x x n v := by
  intro n
  induction n with
  | zero => intro v; rfl
  | succ n ih => intro v; rw [Re_lowestBit_L2, Re_lowestBit_L2, ih]
theorem lowestBit_0 : ∀ m, m < 256 → Re_lowestBit T0x V0x (nI m) = some (oI (lb m)) := by decide +kernel
theorem lowestBit_s (T : Tx) (V : Vx) {m : Nat} (h : m < 256) : Re_lowestBit T V (nI m) = some (oI (lb m)) := by
  rw [← lowestBit_0 m h]
  exact lowestBit_i T V _ _ _
/-- over the lengths of the first row: ways, fewest words, its length -/
def jF (rs W F : Nat → Nat) (i : Nat) : Nat → Nat → Nat × Nat × Nat → Nat × Nat × Nat
  | 0, _, a => a
  | d + 1, k, a => jF rs W F i d (k + 1) (if rs k = 0 then a else (a.1 + pp (rs k) * W (i + k), if F (i + k) + 1 < a.2.1 then F (i + k) + 1 else a.2.1, if F (i + k) + 1 < a.2.1 then k else a.2.2))
def tab (rs : Nat → Nat → Nat) (N : Nat) : Nat → (Nat → Nat) × (Nat → Nat) × (Nat → Nat)
  | 0 => (fun j => if j = N then 1 else 0, fun j => if j = N then 0 else 1000, fun _ => 0)
  | n + 1 => (va_up (tab rs N n).1 (N - (n + 1)) (jF (rs (N - (n + 1))) (tab rs N n).1 (tab rs N n).2.1 (N - (n + 1)) (min 9 (n + 1)) 1 (0, 1000, 0)).1,
      va_up (tab rs N n).2.1 (N - (n + 1)) (jF (rs (N - (n + 1))) (tab rs N n).1 (tab rs N n).2.1 (N - (n + 1)) (min 9 (n + 1)) 1 (0, 1000, 0)).2.1,
      va_up (tab rs N n).2.2 (N - (n + 1)) (jF (rs (N - (n + 1))) (tab rs N n).1 (tab rs N n).2.1 (N - (n + 1)) (min 9 (n + 1)) 1 (0, 1000, 0)).2.2)
theorem jF_le (rs W F : Nat → Nat) (i : Nat) : ∀ (d k : Nat) (a : Nat × Nat × Nat), a.2.1 ≤ 1000 → (jF rs W F i d k a).2.1 ≤ 1000 := by
  intro d
  induction d with
  | zero => intro k a h; exact h
  | succ d ih =>
    intro k a h
    rw [jF]
    apply ih
    by_cases e : rs k = 0
    · rw [if_pos e]; exact h
    · rw [if_neg e]
      dsimp only
      by_cases e2 : F (i + k) + 1 < a.2.1
      · rw [if_pos e2]; omega
      · rw [if_neg e2]; exact h
theorem tab_le (rs : Nat → Nat → Nat) (N : Nat) : ∀ n j, (tab rs N n).2.1 j ≤ 1000 := by
  intro n
  induction n with
  | zero =>
    intro j
    show (if j = N then 0 else 1000) ≤ 1000
    by_cases e : j = N
    · rw [if_pos e]; omega
    · rw [if_neg e]; omega
  | succ n ih =>
    intro j
    show va_up _ _ _ j ≤ 1000
    unfold va_up
    by_cases e : j = N - (n + 1)
    · rw [if_pos e]; exact jF_le _ _ _ _ _ _ _ (Nat.le_refl 1000)
    · rw [if_neg e]; exact ih j
def RdSh (T : Tx) (V : Vx) : Prop := kd T 33 = 11 ∧ ln T 33 = 10 ∧ kd T 34 = 12 ∧ ln T 34 = 17 ∧ kd T 35 = 11 ∧ ln T 35 = 17 ∧ kd T 36 = 11 ∧ ln T 36 = 17 ∧ kd T 37 = 11 ∧ ln T 37 = 17 ∧ fR V 300 32 = some 33 ∧ fR V 301 32 = some 34 ∧ fR V 302 32 = some 35 ∧ fR V 303 32 = some 36 ∧ fR V 304 32 = some 37
theorem RdSh.fr {T : Tx} {V V' : Vx} {P : Nat → Prop} (h : RdSh T V) (hF : Fr P V V') : RdSh T V' := by
  obtain ⟨a1, a2, a3, a4, a5, a6, a7, a8, a9, a10, b1, b2, b3, b4, b5⟩ := h
  exact ⟨a1, a2, a3, a4, a5, a6, a7, a8, a9, a10, by rw [hF.1]; exact b1, by rw [hF.1]; exact b2, by rw [hF.1]; exact b3, by rw [hF.1]; exact b4, by rw [hF.1]; exact b5⟩
theorem nI_le4 {a b : Nat} (ha : a < 2 ^ 31) (hb : b < 2 ^ 31) : nI a = nI b ↔ a = b := nI_eq ha hb
set_option maxHeartbeats 1000000 in
theorem join_l {T : Tx} {rs W F : Nat → Nat} {i N : Nat} (hiN : i < N) (hN : N ≤ 16) : ∀ (d n k : Nat) (V : Vx) (wa fe cu : Nat), k + d = min 9 (N - i) + 1 → d < n → 1 ≤ k → RdSh T V → aL V 34 i = lN wa → aI V 35 i = nI fe → fe ≤ 1000 → (fe < 1000 → aI V 36 i = nI cu ∧ aI V 37 i = oI (lb (rs cu))) → (∀ j, i < j → j ≤ N → aL V 34 j = lN (W j) ∧ aI V 35 j = nI (F j) ∧ F j ≤ 1000) → (∀ m, 1 ≤ m → m ≤ 9 → i + m ≤ N → aI V 33 m = nI (rs m) ∧ rs m < 256) →
    ∃ V', Re_join_L13 T 32 (nI i) (nI N) n V (nI k) = some V' ∧ Fr (fun y => 34 ≤ y ∧ y ≤ 37) V V' ∧ (∀ f, fI V' f = fI V f) ∧ aL V' 34 i = lN (jF rs W F i d k (wa, fe, cu)).1 ∧ aI V' 35 i = nI (jF rs W F i d k (wa, fe, cu)).2.1 ∧ ((jF rs W F i d k (wa, fe, cu)).2.1 < 1000 → aI V' 36 i = nI (jF rs W F i d k (wa, fe, cu)).2.2 ∧ aI V' 37 i = oI (lb (rs (jF rs W F i d k (wa, fe, cu)).2.2))) ∧ ∀ j, j ≠ i → aL V' 34 j = aL V 34 j ∧ aI V' 35 j = aI V 35 j ∧ aI V' 36 j = aI V 36 j ∧ aI V' 37 j = aI V 37 j := by
  intro d
  induction d with
  | zero =>
    intro n k V wa fe cu hkd hn hk hS h1 h2 h3 h4 h5 h6
    obtain ⟨n, rfl⟩ : ∃ m, n = m + 1 := ⟨n - 1, by omega⟩
    refine ⟨V, ?_, Fr.rf, fun _ => rfl, h1, h2, h4, fun j _ => ⟨rfl, rfl, rfl, rfl⟩⟩
    rw [Re_join_L13, show (9 : Int32) = nI 9 from rfl, if_ltn (by omega) (by omega), nI_add, if_ltn (by omega) (by omega)]
    by_cases e : 9 < k
    · rw [if_pos e]
    · rw [if_neg e, if_pos (by omega)]
  | succ d ih =>
    intro n k V wa fe cu hkd hn hk hS h1 h2 h3 h4 h5 h6
    obtain ⟨n, rfl⟩ : ∃ m, n = m + 1 := ⟨n - 1, by omega⟩
    have hS' := hS
    obtain ⟨a1, a2, a3, a4, a5, a6, a7, a8, a9, a10, b1, b2, b3, b4, b5⟩ := hS
    obtain ⟨g1, g2⟩ := h6 k hk (by omega) (by omega)
    obtain ⟨w1, w2, w3⟩ := h5 (i + k) (by omega) (by omega)
    rw [Re_join_L13, show (9 : Int32) = nI 9 from rfl, if_ltn (by omega) (by omega), if_neg (by omega), nI_add, if_ltn (by omega) (by omega), if_neg (by omega), b1, ck_s a1, bd_s, a2, gd_s (inb_n (by omega) (by omega)), lt, cl_n (by omega), g1, show (0 : Int32) = nI 0 from rfl, if_eqn (by omega) (by omega), jF]
    dsimp only
    by_cases e0 : rs k = 0
    · rw [if_pos e0, if_pos e0, nI_1]
      exact ih n (k + 1) V wa fe cu (by omega) (by omega) (by omega) hS' h1 h2 h3 h4 h5 h6
    · rw [if_neg e0, if_neg e0, b2, ck_s a3, bd_s, a4, gd_s (inb_n (by omega) (by omega)), bitCount_s T V g2, bd_s, bd_s, a4, gd_s (inb_n (by omega) (by omega)), gd_s (inb_n (by omega) (by omega)), lt, cl_n (by omega), cl_n (by omega), w1, h1]
      have hpp : pp (rs k) < 2 ^ 31 := by
        have : ∀ (f : Nat → Bool) d j, ctF f d j ≤ d := by
          intro f d
          induction d with
          | zero => intro j; exact Nat.le_refl _
          | succ d ih =>
            intro j
            rw [ctF]
            have := ih (j + 1)
            by_cases e : f j = true
            · rw [if_pos e]; omega
            · rw [if_neg e]; omega
        have := this (fun i => (rs k).testBit i) 16 0
        unfold pp
        omega
      rw [nI_l hpp, lN_mul, lN_add]
      obtain ⟨VL, hVL⟩ : ∃ y, y = wL V 34 i (lN (wa + pp (rs k) * W (i + k))) := ⟨_, rfl⟩
      rw [← hVL]
      have FL : Fr (fun y => 34 ≤ y ∧ y ≤ 37) V VL := by rw [hVL]; exact Fr.wL _ _ _ _ (by omega)
      have eI : ∀ a j, aI VL a j = aI V a j := fun a j => by rw [hVL]; rfl
      have eL : ∀ j, aL VL 34 j = if j = i then lN (wa + pp (rs k) * W (i + k)) else aL V 34 j := fun j => by rw [hVL, aL_wL]; simp
      have eF : ∀ f, fI VL f = fI V f := fun f => by rw [hVL]; rfl
      have eR : ∀ f, fR VL f 32 = fR V f 32 := fun f => by rw [hVL]; rfl
      rw [eR, b3, ck_s a5, bd_s, a6, gd_s (inb_n (by omega) (by omega)), bd_s, a6, gd_s (inb_n (by omega) (by omega)), eI, eI, h2, w2, nI_1, if_le (by omega) (by omega)]
      by_cases e1 : fe ≤ F (i + k) + 1
      · rw [if_pos e1]
        have e1' : ¬ F (i + k) + 1 < fe := by omega
        rw [if_neg e1', if_neg e1']
        obtain ⟨V', z1, z2, z3, z4, z5, z6, z7⟩ := ih n (k + 1) VL (wa + pp (rs k) * W (i + k)) fe cu (by omega) (by omega) (by omega) (hS'.fr FL) (by rw [eL, if_pos rfl]) (by rw [eI]; exact h2) h3 (fun q => by rw [eI, eI]; exact h4 q) (fun j j1 j2 => by rw [eL, if_neg (by omega), eI]; exact h5 j j1 j2) (fun m m1 m2 m3 => by rw [eI]; exact h6 m m1 m2 m3)
        rw [nI_1]
        refine ⟨V', z1, FL.tr z2, fun f => by rw [z3, eF], z4, z5, z6, fun j hj => ?_⟩
        obtain ⟨y1, y2, y3, y4⟩ := z7 j hj
        exact ⟨by rw [y1, eL, if_neg hj], by rw [y2, eI], by rw [y3, eI], by rw [y4, eI]⟩
      · rw [if_neg e1]
        have e1' : F (i + k) + 1 < fe := by omega
        rw [if_pos e1', if_pos e1', bd_s, bd_s, a6, gd_s (inb_n (by omega) (by omega)), gd_s (inb_n (by omega) (by omega)), lt]
        obtain ⟨VF, hVF⟩ : ∃ y, y = wI VL 35 i (nI (F (i + k) + 1)) := ⟨_, rfl⟩
        rw [eI 35 (i + k), w2, nI_1 (F (i + k)), ← hVF]
        rw [show fR VF 303 32 = some 36 by rw [hVF]; show fR VL 303 32 = _; rw [eR, b4], ck_s a7, bd_s, a8, gd_s (inb_n (by omega) (by omega)), lt]
        obtain ⟨VC, hVC⟩ : ∃ y, y = wI VF 36 i (nI k) := ⟨_, rfl⟩
        rw [← hVC]
        rw [show fR VC 304 32 = some 37 by rw [hVC, hVF]; show fR VL 304 32 = _; rw [eR, b5], ck_s a9, bd_s, lowestBit_s T VC g2, bd_s, a10, gd_s (inb_n (by omega) (by omega)), lt]
        obtain ⟨VW, hVW⟩ : ∃ y, y = wI VC 37 i (oI (lb (rs k))) := ⟨_, rfl⟩
        rw [← hVW]
        have FW : Fr (fun y => 34 ≤ y ∧ y ≤ 37) V VW := by
          rw [hVW, hVC, hVF]
          exact ((FL.tr (Fr.wI _ _ _ _ (by omega))).tr (Fr.wI _ _ _ _ (by omega))).tr (Fr.wI _ _ _ _ (by omega))
        have wL' : ∀ j, aL VW 34 j = aL VL 34 j := fun j => by rw [hVW, hVC, hVF]; rfl
        have wF' : ∀ f, fI VW f = fI V f := fun f => by rw [← eF f, hVW, hVC, hVF]; rfl
        have w33 : ∀ j, aI VW 33 j = aI V 33 j := fun j => by rw [← eI 33 j, hVW, hVC, hVF, aI_wI, if_neg (by omega), aI_wI, if_neg (by omega), aI_wI, if_neg (by omega)]
        have w35 : ∀ j, aI VW 35 j = if j = i then nI (F (i + k) + 1) else aI V 35 j := fun j => by rw [← eI 35 j, hVW, hVC, hVF, aI_wI, if_neg (by omega), aI_wI, if_neg (by omega), aI_wI]; simp
        have w36 : ∀ j, aI VW 36 j = if j = i then nI k else aI V 36 j := fun j => by rw [← eI 36 j, hVW, hVC, hVF, aI_wI, if_neg (by omega), aI_wI, aI_wI, if_neg (show ¬ (36 = 35 ∧ j = i) by omega)]; simp
        have w37 : ∀ j, aI VW 37 j = if j = i then oI (lb (rs k)) else aI V 37 j := fun j => by rw [← eI 37 j, hVW, hVC, hVF, aI_wI, aI_wI, if_neg (show ¬ (37 = 36 ∧ j = i) by omega), aI_wI, if_neg (show ¬ (37 = 35 ∧ j = i) by omega)]; simp
        obtain ⟨V', z1, z2, z3, z4, z5, z6, z7⟩ := ih n (k + 1) VW (wa + pp (rs k) * W (i + k)) (F (i + k) + 1) k (by omega) (by omega) (by omega) (hS'.fr FW) (by rw [wL', eL, if_pos rfl]) (by rw [w35, if_pos rfl]) (by omega) (fun q => by rw [w36, if_pos rfl, w37, if_pos rfl]; exact ⟨rfl, rfl⟩) (fun j j1 j2 => by rw [wL', eL, if_neg (by omega), w35, if_neg (by omega)]; exact h5 j j1 j2) (fun m m1 m2 m3 => by rw [w33]; exact h6 m m1 m2 m3)
        rw [nI_1]
        refine ⟨V', z1, FW.tr z2, fun f => by rw [z3, wF'], z4, z5, z6, fun j hj => ?_⟩
        obtain ⟨y1, y2, y3, y4⟩ := z7 j hj
        exact ⟨by rw [y1, wL', eL, if_neg hj], by rw [y2, w35, if_neg hj], by rw [y3, w36, if_neg hj], by rw [y4, w37, if_neg hj]⟩
theorem rd_lt (X : Lex) (lo : Bool) (st : Nat → Bool) (row : List Nat) (h8 : nw X ≤ 8) : rd X lo st row < 256 := by
  have hmU : ∀ (f : Nat → Bool) n, mU f n < 2 ^ n := by
    intro f n
    induction n with
    | zero => exact Nat.one_pos
    | succ n ih =>
      rw [mU]
      apply Nat.or_lt_two_pow
      · exact Nat.lt_of_lt_of_le ih (Nat.pow_le_pow_right (by omega) (by omega))
      · by_cases e : f n = true
        · rw [if_pos e]; exact Nat.pow_lt_pow_right (by omega) (by omega)
        · rw [if_neg e]; exact Nat.two_pow_pos _
  unfold rd
  cases h : isP X st row with
  | none =>
    exact Nat.lt_of_lt_of_le (hmU _ _) (Nat.pow_le_pow_right (n := 2) (by omega) h8)
  | some w =>
    have : w < nw X := by
      unfold isP at h
      split at h
      · split at h
        · have := (fsF_in _ _ _ _ h).2.1
          omega
        · cases h
      · cases h
    exact Nat.pow_lt_pow_right (n := 8) (by omega) (by omega)
/-- as which words the row of k signs from i on is read -/
def rsF (X : Lex) (lo : Bool) (st : Nat → Bool) (l : List Nat) (i k : Nat) : Nat := rd X lo st ((l.drop i).take k)
def PlOk (V : Vx) (rs : Nat → Nat → Nat) (N n : Nat) : Prop := (∀ j, N - n ≤ j → j ≤ N → aL V 34 j = lN ((tab rs N n).1 j) ∧ aI V 35 j = nI ((tab rs N n).2.1 j)) ∧ (∀ j, N - n ≤ j → j < N → (tab rs N n).2.1 j < 1000 → aI V 36 j = nI ((tab rs N n).2.2 j) ∧ aI V 37 j = oI (lb (rs j ((tab rs N n).2.2 j)))) ∧ ∀ j, j < N - n → aL V 34 j = 0 ∧ aI V 35 j = nI 1000
set_option maxHeartbeats 1000000 in
theorem plan_l {T : Tx} {L : Nat} {X : Lex} {lo : Bool} {st : Nat → Bool} {l : List Nat} (hL : ∀ x, x < l.length → ch l x < ns X) (hN : l.length ≤ 16) (hL40 : 38 ≤ L) : ∀ (d k i : Nat) (V : Vx), i = d → d ≤ l.length → d < k → LexAt T V L X lo st → RowAt T V 3 4 16 l → RdSh T V → PlOk V (rsF X lo st l) l.length (l.length - d) →
    ∃ V', Re_plan_L52 T 32 L 3 (nI l.length) k V (nI i - 1) = some V' ∧ Fr (fun y => 33 ≤ y ∧ y ≤ 37) V V' ∧ (∀ f, fI V' f = fI V f) ∧ PlOk V' (rsF X lo st l) l.length l.length := by
  intro d
  induction d with
  | zero =>
    intro k i V hi hd hk hX hR hS hP
    subst hi
    obtain ⟨k, rfl⟩ : ∃ m, k = m + 1 := ⟨k - 1, by omega⟩
    refine ⟨V, ?_, Fr.rf, fun _ => rfl, hP⟩
    rw [Re_plan_L52, if_pos (by decide)]
  | succ d ih =>
    intro k i V hi hd hk hX hR hS hP
    subst hi
    obtain ⟨k, rfl⟩ : ∃ m, k = m + 1 := ⟨k - 1, by omega⟩
    have nw8 := hX.2.1.2.1
    obtain ⟨V1, p1, p2, p3, p4⟩ := look_s (a := 32) (r := 33) (rc := 16) (fr_ := d) hL (by omega) hS.1 hS.2.1 ⟨fun y y1 y2 => by omega, by decide, by decide⟩ hX hR hS.2.2.2.2.2.2.2.2.2.2.1
    have hn : l.length - (l.length - (d + 1)) = d + 1 := by omega
    obtain ⟨P1, P2, P3⟩ := hP
    rw [hn] at P1 P2 P3
    have fI1 : ∀ a j, 34 ≤ a → aI V1 a j = aI V a j := fun a j h => p2.2.2.2.1 a j (by omega)
    have fL1 : ∀ a j, 34 ≤ a → aL V1 a j = aL V a j := fun a j h => p2.2.2.2.2 a j (by omega)
    have hiN : d < l.length := by omega
    have hS1 := hS.fr p2
    obtain ⟨V2, q1, q2, q3, q4, q5, q6, q7⟩ := join_l (T := T) (rs := rsF X lo st l d) (W := (tab (rsF X lo st l) l.length (l.length - (d + 1))).1) (F := (tab (rsF X lo st l) l.length (l.length - (d + 1))).2.1) hiN hN (min 9 (l.length - d)) FU 1 V1 0 1000 0 (by omega) (by rw [← FU_big]; omega) (by omega) hS1 (by rw [fL1 _ _ (by omega)]; exact (P3 d (by omega)).1) (by rw [fI1 _ _ (by omega)]; exact (P3 d (by omega)).2) (by omega) (fun q => absurd q (by omega)) (fun j j1 j2 => by rw [fL1 _ _ (by omega), fI1 _ _ (by omega)]; exact ⟨(P1 j (by omega) j2).1, (P1 j (by omega) j2).2, tab_le _ _ _ _⟩) (fun m m1 m2 m3 => by rw [p4 m m1 m2, if_pos m3]; exact ⟨rfl, rd_lt _ _ _ _ nw8⟩)
    have F2 : Fr (fun y => 33 ≤ y ∧ y ≤ 37) V V2 := (p2.mo fun y h => by omega).tr (q2.mo fun y h => by omega)
    have htab : l.length - d = (l.length - (d + 1)) + 1 := by omega
    have hix : l.length - ((l.length - (d + 1)) + 1) = d := by omega
    obtain ⟨V3, z1, z2, z3, z4⟩ := ih k d V2 rfl (by omega) (by omega) (hX.fr F2 (fun y y1 y2 => by omega)) (hR.fr F2 (by decide) (by decide)) (hS.fr F2) (by
      rw [htab] at q4 q5 q6
      unfold PlOk
      rw [htab, tab, hix]
      refine ⟨fun j j1 j2 => ?_, fun j j1 j2 j3 => ?_, fun j j1 => ?_⟩
      · dsimp only
        unfold va_up
        by_cases e : j = d
        · subst e
          rw [if_pos rfl, if_pos rfl]
          exact ⟨q4, q5⟩
        · obtain ⟨y1, y2, -⟩ := q7 j e
          rw [if_neg e, if_neg e, y1, y2, fL1 _ _ (by omega), fI1 _ _ (by omega)]
          exact P1 j (by omega) j2
      · dsimp only at j3 ⊢
        unfold va_up at j3 ⊢
        by_cases e : j = d
        · subst e
          rw [if_pos rfl] at j3 ⊢
          exact q6 j3
        · obtain ⟨-, -, y3, y4⟩ := q7 j e
          rw [if_neg e] at j3 ⊢
          rw [y3, y4, fI1 _ _ (by omega), fI1 _ _ (by omega)]
          exact P2 j (by omega) j2 j3
      · obtain ⟨y1, y2, -⟩ := q7 j (by omega)
        rw [y1, y2, fL1 _ _ (by omega), fI1 _ _ (by omega)]
        exact P3 j (by omega))
    refine ⟨V3, ?_, F2.tr z2, fun f => by rw [z3, q3, p3], z4⟩
    rw [Re_plan_L52, nI_pred, if_neg (n_lt (by omega)), p1, bd_s, Re_join, if_neg (n_lt (by omega)), show (16 : Int32) = nI 16 from rfl, if_le (by omega) (by omega), if_pos (by omega), show (1 : Int32) = nI 1 from rfl, q1, bd_s, ← Int32.sub_eq_add_neg]
    exact z1
theorem plan_s {T : Tx} {V : Vx} {L : Nat} {X : Lex} {lo : Bool} {st : Nat → Bool} {l : List Nat} (hL : ∀ x, x < l.length → ch l x < ns X) (hL40 : 38 ≤ L) (hX : LexAt T V L X lo st) (hR : RowAt T V 3 4 16 l) (hS : RdSh T V) :
    ∃ V', Re_plan T V 32 L 3 = some V' ∧ Fr (fun y => 33 ≤ y ∧ y ≤ 37) V V' ∧ (∀ f, fI V' f = fI V f) ∧ PlOk V' (rsF X lo st l) l.length l.length := by
  have hN := hR.2.2.2.2.2.2.1
  have hS' := hS
  obtain ⟨a1, a2, a3, a4, a5, a6, a7, a8, a9, a10, b1, b2, b3, b4, b5⟩ := hS
  obtain ⟨V1, p1, p2, p3, p4, p5⟩ := fillL_s (V := V) (x := 0) (T := T) (r := 34) (by omega)
  obtain ⟨V2, q1, q2, q3, q4, q5⟩ := fillI_s (V := V1) (x := 1000) (T := T) (r := 35) (by omega)
  rw [a4] at p4
  rw [a6] at q4
  obtain ⟨V3, hV3⟩ : ∃ y, y = wL V2 34 l.length 1 := ⟨_, rfl⟩
  obtain ⟨V4, hV4⟩ : ∃ y, y = wI V3 35 l.length 0 := ⟨_, rfl⟩
  have F2 : Fr (fun y => 33 ≤ y ∧ y ≤ 37) V V2 := (p2.mo fun y h => by omega).tr (q2.mo fun y h => by omega)
  have F4 : Fr (fun y => 33 ≤ y ∧ y ≤ 37) V V4 := by
    rw [hV4, hV3]
    exact (F2.tr (Fr.wL _ _ _ _ (by omega))).tr (Fr.wI _ _ _ _ (by omega))
  have l2 : ∀ j, j < 17 → aL V2 34 j = 0 := fun j hj => by rw [q2.2.2.2.2 34 j (by decide)]; exact p4 j hj
  obtain ⟨V5, z1, z2, z3, z4⟩ := plan_l hL hN hL40 l.length FU l.length V4 rfl (Nat.le_refl _) (by rw [← FU_big]; omega) (hX.fr F4 (fun y y1 y2 => by omega)) (hR.fr F4 (by decide) (by decide)) (hS'.fr F4) (by
    rw [Nat.sub_self]
    refine ⟨fun j j1 j2 => ?_, fun j j1 j2 => absurd j2 (by omega), fun j j1 => ?_⟩
    · have e : j = l.length := by omega
      subst e
      show _ = lN (if l.length = l.length then 1 else 0) ∧ _ = nI (if l.length = l.length then 0 else 1000)
      rw [if_pos rfl, if_pos rfl, hV4, aL_wI, aI_wI, if_pos ⟨rfl, rfl⟩, hV3, aL_wL, if_pos ⟨rfl, rfl⟩]
      exact ⟨rfl, rfl⟩
    · rw [hV4, aL_wI, aI_wI, if_neg (by omega), hV3, aL_wL, if_neg (by omega), aI_wL]
      exact ⟨l2 j (by omega), q4 j (by omega)⟩)
  refine ⟨V5, ?_, F4.tr z2, fun f => by rw [z3, hV4, hV3]; show fI V2 f = _; rw [q3, p3], z4⟩
  rw [Re_plan, Ro_size_s hR, bd_s, lt, show (16 : Int32) = nI 16 from rfl, if_ltn (by omega) (by omega), if_neg (by omega), b2, ck_s a3, bd_s, p1, bd_s, show fR V1 302 32 = some 35 by rw [p2.1]; exact b3, ck_s a5, bd_s, q1, bd_s, if_n0 (by omega), show fR V2 301 32 = some 34 by rw [F2.1]; exact b2, ck_s a3, bd_s, a4, gd_s (inb_n (by omega) (by omega)), lt, cl_n (by omega), ← hV3, show fR V3 302 32 = some 35 by rw [hV3]; show fR V2 302 32 = _; rw [F2.1]; exact b3, ck_s a5, bd_s, a6, gd_s (inb_n (by omega) (by omega)), lt, ← hV4, lt]
  exact z1
