/-! ===== one item of a text, by the class ===== -/
def okl (t : List Nat) (a e most : Nat) : Bool := decide (a < e) && decide (e - a ≤ most) && alF (fun i => isA (ch t i)) (e - a) a
/-- what an item from s to e makes of a lexicon and its law -/
def itm (X : Lex) (lo : Bool) (t : List Nat) (s e : Nat) : Option (Lex × Bool) :=
  if ch t s = 107 then (match dg t (s + 1) 1 with | none => none | some d => if e = s + 2 then some (X, decide (d = 1)) else none)
  else if ch t s = 109 then (if ns X < 12 then (match dg t (s + 1) 5 with | none => none | some d => if e = s + 2 then some (addS X (2, d, []), lo) else none) else none)
  else if ch t s = 112 then (if ns X < 12 then (match dg t (s + 1) 5 with | none => none | some d => if ch t (s + 2) = 44 then (if okl t (s + 3) e 4 = true then some (addS X (0, d, sgF t (e - (s + 3)) (s + 3)), lo) else none) else none) else none)
  else if ch t s = 115 then (if ns X < 12 then (if okl t (s + 1) e 4 = true then some (addS X (1, 0, sgF t (e - (s + 1)) (s + 1)), lo) else none) else none)
  else if ch t s = 119 then (if nw X < 8 then (match dg t (s + 1) 5 with | none => none | some d => if ch t (s + 2) = 44 then (if okl t (s + 3) e 8 = true then (if fsF (ow X d (sgF t (e - (s + 3)) (s + 3))) (nw X) 0 = none then some (addW X (d, sgF t (e - (s + 3)) (s + 3)), lo) else none) else none) else none) else none)
  else none
theorem okl_len {t : List Nat} {a e most : Nat} (h : okl t a e most = true) : a < e ∧ e - a ≤ most ∧ (sgF t (e - a) a).length = e - a ∧ ∀ x ∈ sgF t (e - a) a, x < 128 := by
  unfold okl at h
  obtain ⟨h1, h2⟩ := Bool.and_eq_true_iff.mp h
  obtain ⟨h3, h4⟩ := Bool.and_eq_true_iff.mp h1
  refine ⟨of_decide_eq_true h3, of_decide_eq_true h4, sgF_len _ _ _, ?_⟩
  have : ∀ d i, alF (fun i => isA (ch t i)) d i = true → ∀ x ∈ sgF t d i, x < 128 := by
    intro d
    induction d with
    | zero => intro i _ x hx; cases hx
    | succ d ih =>
      intro i hi x hx
      rw [alF] at hi
      obtain ⟨q1, q2⟩ := Bool.and_eq_true_iff.mp hi
      rw [sgF] at hx
      rcases List.mem_cons.mp hx with z | z
      · rw [z]
        unfold isA at q1
        have := of_decide_eq_true (Bool.and_eq_true_iff.mp q1).2
        omega
      · exact ih (i + 1) q2 x z
  exact this _ _ h2
theorem dg_le {t : List Nat} {p hi d : Nat} (h : dg t p hi = some d) : d ≤ hi := by
  unfold dg at h
  by_cases e : 48 ≤ ch t p ∧ ch t p ≤ 48 + hi
  · rw [if_pos e] at h; cases h; omega
  · rw [if_neg e] at h; cases h
theorem okS_mk {k c : Nat} {u : List Nat} (h1 : k ≤ 2) (h2 : c ≤ 5) (h3 : k = 2 → u = []) (h4 : k ≠ 2 → 1 ≤ u.length) (h5 : u.length ≤ 4) : okS (k, c, u) := ⟨h1, h2, h3, h4, h5⟩
theorem become_s {T : Tx} {V : Vx} {a r cap b rb cb : Nat} {ls : List Nat} (hne : b ≠ a ∧ b ≠ r ∧ rb ≠ a ∧ rb ≠ r) (ha : LetSh T V a r cap) (hb : LetAt T V b rb cb ls) (i e : Nat) (hi : i ≤ 1000) (he : e ≤ ls.length) : ∃ V', Le_become T V a b (nI i) (nI e) = some (bi (okl ls i e cap), V') ∧ Fr (fun x => x = a ∨ x = r) V V' ∧ (okl ls i e cap = true → LetAt T V' a r cap (sgF ls (e - i) i)) := Le_become_s hne ha hb i e hi he
section IT
variable {T : Tx} {L : Nat} {X : Lex} {lo : Bool}
/-- behind an item: its answer, and the lexicon -/
def ItOk (T : Tx) (V : Vx) (L : Nat) (X : Lex) (lo : Bool) (r : Option (Lex × Bool)) (o : Option (Int32 × Vx)) : Prop := ∃ V', o = some (bi r.isSome, V') ∧ Fr (fun y => L ≤ y ∧ y < L + 63) V V' ∧ LexAt T V' L ((r.map Prod.fst).getD X) ((r.map Prod.snd).getD lo) st0
theorem ItOk.no {V : Vx} (h : LexAt T V L X lo st0) : ItOk T V L X lo none (some (0, V)) := ⟨V, rfl, Fr.rf, h⟩
theorem keep_s {V : Vx} (hX : LexAt T V L X lo st0) {V1 : Vx} (h12 : ns X < 12) {k c : Nat} {u : List Nat} (ha : okS (k, c, u)) (hF : Fr (fun x => x = L + 4 + 3 * ns X ∨ x = L + 5 + 3 * ns X) V V1) (hu : LetAt T V1 (L + 4 + 3 * ns X) (L + 5 + 3 * ns X) 4 u) :
    ∃ V', Pa_keep T V1 (L + 3 + 3 * ns X) (nI k) (nI c) L = some V' ∧ Fr (fun y => L ≤ y ∧ y < L + 63) V V' ∧ LexAt T V' L (addS X (k, c, u)) lo st0 := by
  have n12 := hX.2.1.1
  obtain ⟨V2, hV2⟩ : ∃ V2, V2 = sI (sI (sI V1 601 (L + 3 + 3 * ns X) (nI k)) 602 (L + 3 + 3 * ns X) (nI c)) 603 (L + 3 + 3 * ns X) 0 := ⟨_, rfl⟩
  have hF2 : Fr (fun x => x = L + 3 + 3 * ns X) V1 V2 := by
    rw [hV2]
    exact ((Fr.sI (P := fun x => x = L + 3 + 3 * ns X) _ _ _ _ rfl).tr (Fr.sI _ _ _ _ rfl)).tr (Fr.sI _ _ _ _ rfl)
  have h202 : fI V2 202 L = nI (ns X) := by
    rw [hF2.2.2.1 _ _ (by omega), hF.2.2.1 _ _ (by omega)]; exact hX.2.2.1
  have hF3 : Fr (fun y => y = L ∨ (L + 3 + 3 * ns X ≤ y ∧ y ≤ L + 5 + 3 * ns X)) V (sI V2 202 L (nI (ns X + 1))) := ((hF.mo fun y h => by omega).tr (hF2.mo fun y h => by omega)).tr (Fr.sI _ _ _ _ (Or.inl rfl))
  refine ⟨sI V2 202 L (nI (ns X + 1)), ?_, hF3.mo (fun y h => by omega), ?_⟩
  · rw [Pa_keep, lt, lt, lt, lt, ← hV2, h202, nI_1]
  · refine hX.addS ha h12 hF3 (fun y h => h) (by rw [fI_sI, if_pos ⟨rfl, rfl⟩]) ?_ ?_ ?_ ?_ ?_ ?_
    · rw [fI_sI, if_neg (fun z => absurd z.1 (by decide)), hF2.2.2.1 _ _ (by omega), hF.2.2.1 _ _ (by omega)]
    · rw [fI_sI, if_neg (fun z => absurd z.1 (by decide)), hF2.2.2.1 _ _ (by omega), hF.2.2.1 _ _ (by omega)]
    · rw [fI_sI, if_neg (fun z => absurd z.1 (by decide)), hV2, fI_sI, if_neg (fun z => absurd z.1 (by decide)), fI_sI, if_neg (fun z => absurd z.1 (by decide)), fI_sI, if_pos ⟨rfl, rfl⟩]
    · rw [fI_sI, if_neg (fun z => absurd z.1 (by decide)), hV2, fI_sI, if_neg (fun z => absurd z.1 (by decide)), fI_sI, if_pos ⟨rfl, rfl⟩]
    · rw [fI_sI, if_neg (fun z => absurd z.1 (by decide)), hV2, fI_sI, if_pos ⟨rfl, rfl⟩]
    · exact (hu.fr hF2 (by omega) (by omega)).fr (Fr.sI (P := fun y => y = L) _ _ _ _ rfl) (by omega) (by omega)
theorem takesLaw_s {V : Vx} (hX : LexAt T V L X lo st0) {t : List Nat} (ht : LetAt T V 1 2 200 t) {s e : Nat} (hs : s < t.length) (he : e ≤ t.length) : ItOk T V L X lo (match dg t (s + 1) 1 with | none => none | some d => if e = s + 2 then some (X, decide (d = 1)) else none) (Pa_takesLaw T V 1 (nI s) (nI e) L) := by
  have h200 := ht.2.2.2.2.2.2.1
  rw [Pa_takesLaw, nI_1, show (1 : Int32) = nI 1 from rfl, digitAt_s ht (by omega) (by omega), bd_s, oI_n4 _ (fun d hd => by have := dg_le hd; omega), ad_2, if_eqn (by omega) (by omega)]
  cases hd : dg t (s + 1) 1 with
  | none => rw [if_pos rfl]; exact ItOk.no hX
  | some d =>
    have hd1 := dg_le hd
    dsimp only
    rw [if_neg (show ¬ (some d : Option Nat) = none by simp)]
    by_cases e1 : e = s + 2
    · rw [if_pos e1, if_pos e1, show oI (some d) = nI d from rfl, if_eqn (by omega) (by omega), lt, lt]
      have key : ∀ b : Bool, ItOk T V L X lo (some (X, b)) (some (1, sI V 204 L (bi b))) := by
        intro b
        have hF : Fr (fun y => y = L) V (sI V 204 L (bi b)) := Fr.sI _ _ _ _ rfl
        refine ⟨sI V 204 L (bi b), rfl, hF.mo (fun y h => by omega), ?_⟩
        obtain ⟨h1, h2, h3, h4, h5, h6, h7⟩ := hX
        refine ⟨LexAt.sh' h1 hF, h2, by rw [fI_sI, if_neg (fun z => absurd z.1 (by decide))]; exact h3, by rw [fI_sI, if_neg (fun z => absurd z.1 (by decide))]; exact h4, by rw [fI_sI, if_pos ⟨rfl, rfl⟩]; rfl, fun s hs => ?_, fun w hw => ?_⟩
        · obtain ⟨z1, z2, z3, z4⟩ := h6 s hs
          exact ⟨by rw [hF.2.2.1 _ _ (by omega)]; exact z1, by rw [hF.2.2.1 _ _ (by omega)]; exact z2, by rw [hF.2.2.1 _ _ (by omega)]; exact z3, z4.fr hF (by omega) (by omega)⟩
        · obtain ⟨z1, z4⟩ := h7 w hw
          exact ⟨by rw [hF.2.2.1 _ _ (by omega)]; exact z1, z4.fr hF (by omega) (by omega)⟩
      by_cases e2 : d = 1
      · rw [if_pos e2, decide_eq_true e2]; exact key true
      · rw [if_neg e2, decide_eq_false e2]; exact key false
    · rw [if_neg e1, if_neg e1]; exact ItOk.no hX
theorem takesMark_s {V : Vx} (hX : LexAt T V L X lo st0) (hL : 38 ≤ L) {t : List Nat} (ht : LetAt T V 1 2 200 t) {s e : Nat} (hs : s < t.length) (he : e ≤ t.length) : ItOk T V L X lo (if ns X < 12 then (match dg t (s + 1) 5 with | none => none | some d => if e = s + 2 then some (addS X (2, d, []), lo) else none) else none) (Pa_takesMark T V 1 (nI s) (nI e) L) := by
  have h200 := ht.2.2.2.2.2.2.1
  rw [Pa_takesMark, nextSign_s hX, bd_s, nI_1, show (5 : Int32) = nI 5 from rfl, digitAt_s ht (by omega) (by omega), bd_s]
  by_cases h12 : ns X < 12
  · rw [if_pos h12, if_pos h12]
    dsimp only
    rw [oI_n4 _ (fun d hd => by have := dg_le hd; omega), ad_2, if_eqn (by omega) (by omega)]
    cases hd : dg t (s + 1) 5 with
    | none => rw [if_pos rfl]; exact ItOk.no hX
    | some d =>
      have hd1 := dg_le hd
      dsimp only
      rw [if_neg (show ¬ (some d : Option Nat) = none by simp)]
      by_cases e1 : e = s + 2
      · obtain ⟨z1, z2, z3, z4⟩ := hX.1.2.2.2.2.2.2.2.1 (ns X) h12
        obtain ⟨V1, p1, p2, p3⟩ := Le_clear_s z4
        obtain ⟨V2, q1, q2, q3⟩ := keep_s (T := T) hX h12 (k := 2) (c := d) (u := []) (okS_mk (Nat.le_refl 2) hd1 (fun _ => rfl) (fun z => absurd rfl z) (by decide)) (p2.mo fun y h => Or.inl h) p3
        rw [if_pos e1, if_pos e1, ck_s z2, bd_s, z3, ck_s z4.1, bd_s, p1, bd_s, show oI (some d) = nI d from rfl, show (2 : Int32) = nI 2 from rfl, q1, bd_s]
        exact ⟨V2, rfl, q2, q3⟩
      · rw [if_neg e1, if_neg e1]; exact ItOk.no hX
  · rw [if_neg h12, if_neg h12]
    exact ItOk.no hX
theorem takesSound_s {V : Vx} (hX : LexAt T V L X lo st0) (hL : 38 ≤ L) {t : List Nat} (ht : LetAt T V 1 2 200 t) {s e : Nat} (hs : s < t.length) (he : e ≤ t.length) : ItOk T V L X lo (if ns X < 12 then (if okl t (s + 1) e 4 = true then some (addS X (1, 0, sgF t (e - (s + 1)) (s + 1)), lo) else none) else none) (Pa_takesSound T V 1 (nI s) (nI e) L) := by
  have h200 := ht.2.2.2.2.2.2.1
  rw [Pa_takesSound, nextSign_s hX, bd_s, nI_1]
  by_cases h12 : ns X < 12
  · rw [if_pos h12, if_pos h12]
    dsimp only
    obtain ⟨z1, z2, z3, z4⟩ := hX.1.2.2.2.2.2.2.2.1 (ns X) h12
    obtain ⟨V1, p1, p2, p3⟩ := become_s ⟨by omega, by omega, by omega, by omega⟩ z4 ht (s + 1) e (by omega) he
    rw [ck_s z2, bd_s, z3, ck_s z4.1, bd_s, p1, bd2_s, if_bi]
    by_cases e1 : okl t (s + 1) e 4 = true
    · obtain ⟨o1, o2, o3, o4⟩ := okl_len e1
      obtain ⟨V2, q1, q2, q3⟩ := keep_s (T := T) hX h12 (k := 1) (c := 0) (u := sgF t (e - (s + 1)) (s + 1)) (okS_mk (by decide) (by decide) (fun z => absurd z (by decide)) (fun _ => by rw [o3]; omega) (by rw [o3]; omega)) p2 (p3 e1)
      rw [if_pos e1, if_pos e1, show (1 : Int32) = nI 1 from rfl, show (0 : Int32) = nI 0 from rfl, q1, bd_s]
      exact ⟨V2, rfl, q2, q3⟩
    · rw [if_neg e1, if_neg e1]
      exact ⟨V1, rfl, p2.mo (fun y h => by omega), hX.keepS p2 (fun y h => by omega)⟩
  · rw [if_neg h12, if_neg h12]
    exact ItOk.no hX
theorem at_s {V : Vx} {t : List Nat} (ht : LetAt T V 1 2 200 t) {p : Nat} (hp : p < 1000) : ∃ x, Le_at T V 1 (nI p) = some x ∧ ∀ c, 0 < c → c < 128 → (x = nI c ↔ ch t p = c) := by
  have h128 := gD_lt ht.2.2.2.2.2.2.2.2 (by decide) p
  by_cases e : p < t.length
  · exact ⟨nI (ch t p), Le_at_s ht p e, fun c _ hc => nI_eq (by omega) (by omega)⟩
  · have h200 := ht.2.2.2.2.2.2.1
    refine ⟨-4, Le_at_n ht (nI p) (Or.inr (nI_le (by omega) (by omega))), fun c h0 hc => ?_⟩
    rw [ch_out (by omega)]
    exact ⟨fun z => by have := nI_pos (show c < 2 ^ 31 by omega); rw [← z] at this; exact absurd (by decide) this, fun z => by omega⟩
theorem takesPicture_s {V : Vx} (hX : LexAt T V L X lo st0) (hL : 38 ≤ L) {t : List Nat} (ht : LetAt T V 1 2 200 t) {s e : Nat} (hs : s < t.length) (he : e ≤ t.length) : ItOk T V L X lo (if ns X < 12 then (match dg t (s + 1) 5 with | none => none | some d => if ch t (s + 2) = 44 then (if okl t (s + 3) e 4 = true then some (addS X (0, d, sgF t (e - (s + 3)) (s + 3)), lo) else none) else none) else none) (Pa_takesPicture T V 1 (nI s) (nI e) L) := by
  have h200 := ht.2.2.2.2.2.2.1
  obtain ⟨x2, a1, a2⟩ := at_s ht (p := s + 2) (by omega)
  have a3 := a2 44 (by decide) (by decide)
  rw [Pa_takesPicture, nextSign_s hX, bd_s, nI_1, show (5 : Int32) = nI 5 from rfl, digitAt_s ht (by omega) (by omega), bd_s]
  by_cases h12 : ns X < 12
  · rw [if_pos h12, if_pos h12]
    dsimp only
    rw [oI_n4 _ (fun d hd => by have := dg_le hd; omega), ad_2, a1, bd_s]
    cases hd : dg t (s + 1) 5 with
    | none => rw [if_pos rfl]; exact ItOk.no hX
    | some d =>
      have hd1 := dg_le hd
      dsimp only
      rw [if_neg (show ¬ (some d : Option Nat) = none by simp)]
      by_cases e0 : ch t (s + 2) = 44
      · obtain ⟨z1, z2, z3, z4⟩ := hX.1.2.2.2.2.2.2.2.1 (ns X) h12
        obtain ⟨V1, p1, p2, p3⟩ := become_s ⟨by omega, by omega, by omega, by omega⟩ z4 ht (s + 3) e (by omega) he
        rw [if_pos (show x2 = 44 from a3.mpr e0), if_pos e0, ck_s z2, bd_s, z3, ck_s z4.1, bd_s, ad_3, p1, bd2_s, if_bi]
        by_cases e1 : okl t (s + 3) e 4 = true
        · obtain ⟨o1, o2, o3, o4⟩ := okl_len e1
          obtain ⟨V2, q1, q2, q3⟩ := keep_s (T := T) hX h12 (k := 0) (c := d) (u := sgF t (e - (s + 3)) (s + 3)) (okS_mk (by decide) hd1 (fun z => absurd z (by decide)) (fun _ => by rw [o3]; omega) (by rw [o3]; omega)) p2 (p3 e1)
          rw [if_pos e1, if_pos e1, show (0 : Int32) = nI 0 from rfl, show oI (some d) = nI d from rfl, q1, bd_s]
          exact ⟨V2, rfl, q2, q3⟩
        · rw [if_neg e1, if_neg e1]
          exact ⟨V1, rfl, p2.mo (fun y h => by omega), hX.keepS p2 (fun y h => by omega)⟩
      · rw [if_neg (show ¬ x2 = 44 from fun z => e0 (a3.mp z)), if_neg e0]
        exact ItOk.no hX
  · rw [if_neg h12, if_neg h12]
    exact ItOk.no hX
set_option maxHeartbeats 1000000 in
theorem takesWord_s {V : Vx} (hX : LexAt T V L X lo st0) (hL : 38 ≤ L) {t : List Nat} (ht : LetAt T V 1 2 200 t) {s e : Nat} (hs : s < t.length) (he : e ≤ t.length) : ItOk T V L X lo (if nw X < 8 then (match dg t (s + 1) 5 with | none => none | some d => if ch t (s + 2) = 44 then (if okl t (s + 3) e 8 = true then (if fsF (ow X d (sgF t (e - (s + 3)) (s + 3))) (nw X) 0 = none then some (addW X (d, sgF t (e - (s + 3)) (s + 3)), lo) else none) else none) else none) else none) (Pa_takesWord T V 1 (nI s) (nI e) L) := by
  have h200 := ht.2.2.2.2.2.2.1
  obtain ⟨x2, a1, a2⟩ := at_s ht (p := s + 2) (by omega)
  have a3 := a2 44 (by decide) (by decide)
  rw [Pa_takesWord, nextWord_s hX, bd_s, nI_1, show (5 : Int32) = nI 5 from rfl, digitAt_s ht (by omega) (by omega), bd_s]
  by_cases h8 : nw X < 8
  · rw [if_pos h8, if_pos h8]
    dsimp only
    rw [oI_n4 _ (fun d hd => by have := dg_le hd; omega), ad_2, a1, bd_s]
    cases hd : dg t (s + 1) 5 with
    | none => rw [if_pos rfl]; exact ItOk.no hX
    | some d =>
      have hd1 := dg_le hd
      dsimp only
      rw [if_neg (show ¬ (some d : Option Nat) = none by simp)]
      by_cases e0 : ch t (s + 2) = 44
      · obtain ⟨z1, z2, z3, z4⟩ := hX.1.2.2.2.2.2.2.2.2 (nw X) h8
        obtain ⟨V1, p1, p2, p3⟩ := become_s ⟨by omega, by omega, by omega, by omega⟩ z4 ht (s + 3) e (by omega) he
        have hX1 : LexAt T V1 L X lo st0 := hX.keepS p2 (fun y h => by omega)
        rw [if_pos (show x2 = 44 from a3.mpr e0), if_pos e0, ck_s z2, bd_s, z3, ck_s z4.1, bd_s, ad_3, p1, bd2_s, if_bi]
        by_cases e1 : okl t (s + 3) e 8 = true
        · obtain ⟨o1, o2, o3, o4⟩ := okl_len e1
          have hw := wordOf_s hX1 d (by omega) (p3 e1)
          have hn8 := hX.2.1.2.1
          rw [if_pos e1, if_pos e1, p2.1, z3, ck_s z4.1, bd_s, show oI (some d) = nI d from rfl, hw, bd_s, oI_n4 _ (fun v hv => by obtain ⟨-, q2, -⟩ := fsF_in _ _ _ _ hv; omega)]
          by_cases e2 : fsF (ow X d (sgF t (e - (s + 3)) (s + 3))) (nw X) 0 = none
          · rw [if_pos e2, if_pos e2, lt, lt]
            have h203 : fI (sI V1 701 (L + 39 + 3 * nw X) (nI d)) 203 L = nI (nw X) := by
              rw [fI_sI, if_neg (fun z => absurd z.1 (by decide))]; exact hX1.2.2.2.1
            rw [h203, nI_1]
            have hF2 : Fr (fun y => y = L ∨ y = L + 39 + 3 * nw X) V1 (sI (sI V1 701 (L + 39 + 3 * nw X) (nI d)) 203 L (nI (nw X + 1))) := (Fr.sI (P := fun y => y = L ∨ y = L + 39 + 3 * nw X) _ _ _ _ (Or.inr rfl)).tr (Fr.sI _ _ _ _ (Or.inl rfl))
            refine ⟨_, rfl, (p2.mo fun y h => by omega).tr (hF2.mo fun y h => by omega), ?_⟩
            refine hX1.addW (hX.2.1.addW h8 hd1 (by show 1 ≤ (sgF t (e - (s + 3)) (s + 3)).length; omega) (by show (sgF t (e - (s + 3)) (s + 3)).length ≤ 8; omega) (fun w hw => fsF_no _ _ _ e2 w (Nat.zero_le w) (by omega))) h8 hF2 (fun y h => by omega) ?_ ?_ ?_ ?_ ?_
            · rw [fI_sI, if_neg (fun z => absurd z.1 (by decide)), fI_sI, if_neg (fun z => absurd z.1 (by decide))]
            · rw [fI_sI, if_pos ⟨rfl, rfl⟩]
            · rw [fI_sI, if_neg (fun z => absurd z.1 (by decide)), fI_sI, if_neg (fun z => absurd z.1 (by decide))]
            · rw [fI_sI, if_neg (fun z => absurd z.1 (by decide)), fI_sI, if_pos ⟨rfl, rfl⟩]
            · exact (p3 e1).fr hF2 (by omega) (by omega)
          · rw [if_neg e2, if_neg e2]
            exact ⟨V1, rfl, p2.mo (fun y h => by omega), hX1⟩
        · rw [if_neg e1, if_neg e1]
          exact ⟨V1, rfl, p2.mo (fun y h => by omega), hX1⟩
      · rw [if_neg (show ¬ x2 = 44 from fun z => e0 (a3.mp z)), if_neg e0]
        exact ItOk.no hX
  · rw [if_neg h8, if_neg h8]
    exact ItOk.no hX
end IT
