/-! ===== rows of signs ===== -/
def RowSh (T : Tx) (V : Vx) (a r cap : Nat) : Prop := kd T a = 4 ∧ fR V 400 a = some r ∧ kd T r = 11 ∧ ln T r = cap ∧ cap < 1000
def RowAt (T : Tx) (V : Vx) (a r cap : Nat) (l : List Nat) : Prop :=
  kd T a = 4 ∧ fR V 400 a = some r ∧ kd T r = 11 ∧ ln T r = cap ∧ cap < 1000 ∧ fI V 401 a = nI l.length ∧ l.length ≤ cap ∧ (∀ j, j < l.length → aI V r j = nI (ch l j)) ∧ ∀ x ∈ l, x < 100
theorem RowAt.sh {T : Tx} {V : Vx} {a r cap : Nat} {l : List Nat} (h : RowAt T V a r cap l) : RowSh T V a r cap := ⟨h.1, h.2.1, h.2.2.1, h.2.2.2.1, h.2.2.2.2.1⟩
theorem RowSh.fr {T : Tx} {V V' : Vx} {a r cap : Nat} {P : Nat → Prop} (h : RowSh T V a r cap) (hF : Fr P V V') : RowSh T V' a r cap := ⟨h.1, by rw [hF.1]; exact h.2.1, h.2.2⟩
theorem RowAt.fr {T : Tx} {V V' : Vx} {a r cap : Nat} {l : List Nat} {P : Nat → Prop} (h : RowAt T V a r cap l) (hF : Fr P V V') (ha : ¬ P a) (hr : ¬ P r) : RowAt T V' a r cap l :=
  ⟨h.1, by rw [hF.1]; exact h.2.1, h.2.2.1, h.2.2.2.1, h.2.2.2.2.1, by rw [hF.2.2.1 _ _ ha]; exact h.2.2.2.2.2.1, h.2.2.2.2.2.2.1, fun j hj => by rw [hF.2.2.2.1 _ _ hr]; exact h.2.2.2.2.2.2.2.1 j hj, h.2.2.2.2.2.2.2.2⟩
section RO
variable {T : Tx} {V : Vx} {a r cap : Nat} {l : List Nat}
theorem Ro_size_s (h : RowAt T V a r cap l) : Ro_size T V a = some (nI l.length) := by rw [Ro_size, h.2.2.2.2.2.1]
theorem Ro_at_s (h : RowAt T V a r cap l) (j : Nat) (hj : j < l.length) : Ro_at T V a (nI j) = some (nI (ch l j)) := by
  obtain ⟨ka, er, kr, lr, hc, es, hl, hjj, hx⟩ := h
  rw [Ro_at, if_neg (n_lt (by omega)), es, if_le (by omega) (by omega), if_neg (by omega), er, ck_s kr, bd_s, bd_s, lr, if_le (by omega) (by omega), if_neg (by omega), gd_s (inb_n (by omega) (by omega)), cl_n (by omega), hjj j hj]
theorem Ro_at_n (h : RowAt T V a r cap l) (x : Int32) (hx0 : x < 0 ∨ nI l.length ≤ x) : Ro_at T V a x = some (-4) := by
  obtain ⟨ka, er, kr, lr, hc, es, hl, hjj, hx⟩ := h
  rw [Ro_at]
  by_cases h0 : x < 0
  · rw [if_pos h0]
  · rw [if_neg h0, es, if_pos (hx0.resolve_left h0)]
theorem Ro_isFull_s (h : RowAt T V a r cap l) : Ro_isFull T V a = some (bi (decide (cap ≤ l.length))) := by
  obtain ⟨ka, er, kr, lr, hc, es, hl, hj, hx⟩ := h
  rw [Ro_isFull, es, er, ck_s kr, bd_s, lr, if_ltn (by omega) (by omega)]
  by_cases h : cap ≤ l.length
  · rw [if_neg (by omega)]; simp [h, bi]
  · rw [if_pos (by omega)]; simp [h, bi]
theorem Ro_clear_s (h : RowSh T V a r cap) : ∃ V', Ro_clear T V a = some V' ∧ Fr (fun x => x = a) V V' ∧ RowAt T V' a r cap [] := by
  obtain ⟨ka, er, kr, lr, hc⟩ := h
  refine ⟨sI V 401 a 0, rfl, Fr.sI _ _ _ _ rfl, ka, er, kr, lr, hc, ?_, Nat.zero_le _, fun j hj => absurd hj (Nat.not_lt_zero _), fun x hx => by cases hx⟩
  rw [fI_sI, if_pos ⟨rfl, rfl⟩]
  rfl
theorem Ro_put_s (h : RowAt T V a r cap l) (c : Nat) (hc100 : c < 100) (hlt : l.length < cap) : ∃ V', Ro_put T V a (nI c) = some V' ∧ Fr (fun x => x = a ∨ x = r) V V' ∧ RowAt T V' a r cap (l ++ [c]) := by
  obtain ⟨ka, er, kr, lr, hc, es, hl, hj, hx⟩ := h
  refine ⟨sI (wI V r l.length (nI c)) 401 a (nI (l.length + 1)), ?_, (Fr.wI _ _ _ _ (Or.inr rfl)).tr (Fr.sI _ _ _ _ (Or.inl rfl)), ka, er, kr, lr, hc, ?_, by simp; omega, fun j hjl => ?_, fun x hxl => ?_⟩
  · rw [Ro_put, es, if_neg (n_lt (by omega)), er, ck_s kr, bd_s, lr, if_le (by omega) (by omega), if_neg (by omega), bd_s, lr, gd_s (inb_n (by omega) (by omega)), cl_n (by omega), lt, lt, fI_wI, es, nI_1]
  · rw [fI_sI, if_pos ⟨rfl, rfl⟩]; simp
  · rw [aI_sI, aI_wI, ch_app1]
    have hjl : j < l.length + 1 := by simpa using hjl
    by_cases e : j = l.length
    · rw [if_pos ⟨rfl, e⟩, if_neg (by omega), if_pos e]
    · rw [if_neg (fun q => e q.2), if_pos (by omega)]
      exact hj j (by omega)
  · rcases List.mem_append.mp hxl with q | q
    · exact hx x q
    · rw [List.mem_singleton.mp q]; exact hc100
theorem Ro_drop_s {c : Nat} (h : RowAt T V a r cap (l ++ [c])) : ∃ V', Ro_drop T V a = some (nI c, V') ∧ Fr (fun x => x = a) V V' ∧ RowAt T V' a r cap l := by
  have hh := h
  obtain ⟨ka, er, kr, lr, hc, es, hl, hj, hx⟩ := h
  have hlen : (l ++ [c]).length = l.length + 1 := by simp
  have hcc : ch (l ++ [c]) l.length = c := by rw [ch_app1, if_neg (by omega), if_pos rfl]
  have c100 : c < 100 := hx c (by simp)
  rw [hlen] at es hl hj
  refine ⟨sI V 401 a (nI l.length), ?_, Fr.sI _ _ _ _ rfl, ka, er, kr, lr, hc, ?_, by omega, fun j hjl => ?_, fun x hxl => hx x (by simp [hxl])⟩
  · rw [Ro_drop, es, nI_pred, Ro_at_s hh l.length (by omega), bd_s, hcc, if_neg, lt]
    rw [i_eq, nI_toInt (by omega)]
    have : (-4 : Int32).toInt = -4 := by decide
    omega
  · rw [fI_sI, if_pos ⟨rfl, rfl⟩]
  · rw [aI_sI, hj j (by omega), ch_app1, if_pos hjl]
theorem Ro_has_l (h : RowAt T V a r cap l) (c : Nat) (hc100 : c < 2 ^ 31) : ∀ (d n j : Nat), j + d = l.length → d < n → Ro_has_L2 T V a (nI c) n (nI j) = some (bi (!(alF (fun i => !(ch l i == c)) d j))) := by
  have hh := h
  obtain ⟨ka, er, kr, lr, hc, es, hl, hjj, hx⟩ := h
  intro d
  induction d with
  | zero =>
    intro n j hjd hn
    obtain ⟨n, rfl⟩ : ∃ m, n = m + 1 := ⟨n - 1, by omega⟩
    rw [Ro_has_L2, es, if_le (by omega) (by omega), if_pos (by omega)]
    rfl
  | succ d ih =>
    intro n j hjd hn
    obtain ⟨n, rfl⟩ : ∃ m, n = m + 1 := ⟨n - 1, by omega⟩
    have b1 := gD_lt hx (by omega) j
    rw [Ro_has_L2, es, if_le (by omega) (by omega), if_neg (by omega), Ro_at_s hh j (by omega), bd_s, if_eqn (by omega) (by omega), nI_1, ih n (j + 1) (by omega) (by omega), alF]
    by_cases e : ch l j = c
    · rw [if_pos e]; simp [e, bi]
    · have e' : (ch l j == c) = false := by simpa using e
      rw [if_neg e, e']; rfl
theorem Ro_has_s (h : RowAt T V a r cap l) (c : Nat) (hc100 : c < 2 ^ 31) : Ro_has T V a (nI c) = some (bi (!(alF (fun i => !(ch l i == c)) l.length 0))) := by
  have h1 := h.2.2.2.2.2.2.1
  have h2 := h.2.2.2.2.1
  have := Ro_has_l h c hc100 l.length FU 0 (by omega) (by rw [← FU_big]; omega)
  rw [nI_0] at this
  rw [Ro_has, this]
theorem Ro_same_l {a2 r2 c2 : Nat} {l2 : List Nat} (h : RowAt T V a r cap l) (h2 : RowAt T V a2 r2 c2 l2) (he : l.length = l2.length) : ∀ (d n j : Nat), j + d = l.length → d < n → Ro_isSameAs_L15 T V a a2 n (nI j) = some (bi (alF (fun i => ch l i == ch l2 i) d j)) := by
  have hh := h
  have hh2 := h2
  obtain ⟨ka, er, kr, lr, hc, es, hl, hjj, hx⟩ := h
  obtain ⟨ka2, er2, kr2, lr2, hc2, es2, hl2, hjj2, hx2⟩ := h2
  intro d
  induction d with
  | zero =>
    intro n j hjd hn
    obtain ⟨n, rfl⟩ : ∃ m, n = m + 1 := ⟨n - 1, by omega⟩
    rw [Ro_isSameAs_L15, es, if_le (by omega) (by omega), if_pos (by omega)]
    rfl
  | succ d ih =>
    intro n j hjd hn
    obtain ⟨n, rfl⟩ : ∃ m, n = m + 1 := ⟨n - 1, by omega⟩
    have b1 := gD_lt hx (by omega) j
    have b2 := gD_lt hx2 (by omega) j
    rw [Ro_isSameAs_L15, es, if_le (by omega) (by omega), if_neg (by omega), Ro_at_s hh j (by omega), bd_s, Ro_at_s hh2 j (by omega), bd_s, if_eqn (by omega) (by omega), nI_1, ih n (j + 1) (by omega) (by omega), alF]
    by_cases e : ch l j = ch l2 j
    · rw [if_pos e]; simp [e]
    · rw [if_neg e]; simp [e, bi]
theorem ch_ext {l l2 : List Nat} (he : l.length = l2.length) (h : ∀ i, i < l.length → ch l i = ch l2 i) : l = l2 := by
  apply List.ext_getElem?
  intro i
  by_cases hi : i < l.length
  · have h3 := h i hi
    unfold ch at h3
    rw [List.getD_eq_getElem?_getD, List.getD_eq_getElem?_getD, List.getElem?_eq_getElem hi, List.getElem?_eq_getElem (by omega : i < l2.length)] at h3
    rw [List.getElem?_eq_getElem hi, List.getElem?_eq_getElem (by omega : i < l2.length)]
    exact congrArg some h3
  · rw [List.getElem?_eq_none (by omega), List.getElem?_eq_none (by omega)]
theorem Ro_same_s {a2 r2 c2 : Nat} {l2 : List Nat} (h : RowAt T V a r cap l) (h2 : RowAt T V a2 r2 c2 l2) : Ro_isSameAs T V a a2 = some (bi (decide (l = l2))) := by
  have h1 := h.2.2.2.2.2.2.1
  have h3 := h.2.2.2.2.1
  have h4 := h2.2.2.2.2.2.2.1
  have h5 := h2.2.2.2.2.1
  rw [Ro_isSameAs, h.2.2.2.2.2.1, h2.2.2.2.2.2.1, if_eqn (by omega) (by omega)]
  by_cases e : l.length = l2.length
  · have := Ro_same_l h h2 e l.length FU 0 (by omega) (by rw [← FU_big]; omega)
    rw [nI_0] at this
    rw [if_pos e, this]
    congr 2
    rw [Bool.eq_iff_iff, alF_iff, decide_eq_true_eq]
    constructor
    · intro q
      exact ch_ext e (fun i hi => by simpa using q i (by omega) (by omega))
    · rintro rfl i _ _
      simp
  · rw [if_neg e]
    have : ¬ l = l2 := fun q => e (by rw [q])
    simp [this, bi]
end RO
theorem ch_pre (l : List Nat) (j : Nat) (hj : j < l.length) : l.take j ++ [ch l j] = l.take (j + 1) := by
  rw [List.take_succ, List.getElem?_eq_getElem hj]
  unfold ch
  rw [List.getD_eq_getElem?_getD, List.getElem?_eq_getElem hj]
  rfl
theorem Ro_copy_l {T : Tx} {a r cap a2 r2 c2 : Nat} {l2 : List Nat} (hne : a2 ≠ a ∧ a2 ≠ r ∧ r2 ≠ a ∧ r2 ≠ r) (hcap : l2.length ≤ cap) : ∀ (d n j : Nat) (V : Vx), j + d = l2.length → d < n → RowAt T V a r cap (l2.take j) → RowAt T V a2 r2 c2 l2 → ∃ V', Ro_copy_L6 T a a2 n V (nI j) = some V' ∧ Fr (fun x => x = a ∨ x = r) V V' ∧ RowAt T V' a r cap l2 := by
  intro d
  induction d with
  | zero =>
    intro n j V hjd hn ha hb
    obtain ⟨n, rfl⟩ : ∃ m, n = m + 1 := ⟨n - 1, by omega⟩
    have h4 := hb.2.2.2.2.2.2.1
    have h5 := hb.2.2.2.2.1
    refine ⟨V, ?_, Fr.rf, ?_⟩
    · rw [Ro_copy_L6, hb.2.2.2.2.2.1, if_le (by omega) (by omega), if_pos (by omega)]
    · rw [List.take_of_length_le (by omega)] at ha
      exact ha
  | succ d ih =>
    intro n j V hjd hn ha hb
    obtain ⟨n, rfl⟩ : ∃ m, n = m + 1 := ⟨n - 1, by omega⟩
    have h4 := hb.2.2.2.2.2.2.1
    have h5 := hb.2.2.2.2.1
    have b1 := gD_lt hb.2.2.2.2.2.2.2.2 (by omega) j
    obtain ⟨V1, p1, p2, p3⟩ := Ro_put_s ha (ch l2 j) b1 (by rw [List.length_take]; omega)
    rw [ch_pre l2 j (by omega)] at p3
    obtain ⟨V2, q1, q2, q3⟩ := ih n (j + 1) V1 (by omega) (by omega) p3 (hb.fr p2 (by rintro (z | z); exact hne.1 z; exact hne.2.1 z) (by rintro (z | z); exact hne.2.2.1 z; exact hne.2.2.2 z))
    refine ⟨V2, ?_, p2.tr q2, q3⟩
    rw [Ro_copy_L6, hb.2.2.2.2.2.1, if_le (by omega) (by omega), if_neg (by omega), Ro_at_s hb j (by omega), bd_s, p1, bd_s, nI_1, q1]
theorem Ro_copy_s {T : Tx} {V : Vx} {a r cap a2 r2 c2 : Nat} {l2 : List Nat} (hne : a2 ≠ a ∧ a2 ≠ r ∧ r2 ≠ a ∧ r2 ≠ r) (hcap : l2.length ≤ cap) (ha : RowSh T V a r cap) (hb : RowAt T V a2 r2 c2 l2) : ∃ V', Ro_copy T V a a2 = some V' ∧ Fr (fun x => x = a ∨ x = r) V V' ∧ RowAt T V' a r cap l2 := by
  obtain ⟨V1, p1, p2, p3⟩ := Ro_clear_s ha
  have h4 := hb.2.2.2.2.2.2.1
  have h5 := hb.2.2.2.2.1
  obtain ⟨V2, q1, q2, q3⟩ := Ro_copy_l hne hcap l2.length FU 0 V1 (by omega) (by rw [← FU_big]; omega) (by simpa using p3) (hb.fr p2 hne.1 hne.2.2.1)
  refine ⟨V2, ?_, (p2.mo fun _ h => Or.inl h).tr q2, q3⟩
  rw [nI_0] at q1
  rw [Ro_copy, p1, bd_s, q1]
/-! ===== Arrays.fill ===== -/
theorem fillI_l {T : Tx} {r : Nat} {x : Int32} (hr : ln T r < 100000) : ∀ (d n j : Nat) (V : Vx), j + d = ln T r → d < n → ∃ V', Ja_fillI_L5 T r x (nI (ln T r)) n V (nI j) = some V' ∧ Fr (fun y => y = r) V V' ∧ (∀ f, fI V' f = fI V f) ∧ (∀ i, aI V' r i = if j ≤ i ∧ i < ln T r then x else aI V r i) ∧ ∀ i, aL V' r i = aL V r i := by
  intro d
  induction d with
  | zero =>
    intro n j V hjd hn
    obtain ⟨n, rfl⟩ : ∃ m, n = m + 1 := ⟨n - 1, by omega⟩
    refine ⟨V, ?_, Fr.rf, fun _ => rfl, fun i => ?_, fun _ => rfl⟩
    · rw [Ja_fillI_L5, if_le (by omega) (by omega), if_pos (by omega)]
    · rw [if_neg (by omega)]
  | succ d ih =>
    intro n j V hjd hn
    obtain ⟨n, rfl⟩ : ∃ m, n = m + 1 := ⟨n - 1, by omega⟩
    obtain ⟨V', q1, q2, q5, q3, q4⟩ := ih n (j + 1) (wI V r j x) (by omega) (by omega)
    refine ⟨V', ?_, (Fr.wI (P := fun y => y = r) _ _ _ _ rfl).tr q2, fun f => by rw [q5]; rfl, fun i => ?_, fun i => by rw [q4]; rfl⟩
    · rw [Ja_fillI_L5, if_le (by omega) (by omega), if_neg (by omega), gd_s (inb_n (by omega) (by omega)), lt, cl_n (by omega), nI_1, q1]
    · rw [q3, aI_wI]
      by_cases e : i = j
      · rw [if_neg (by omega), if_pos ⟨rfl, e⟩, if_pos (by omega)]
      · by_cases e2 : j ≤ i ∧ i < ln T r
        · rw [if_pos (by omega), if_pos e2]
        · rw [if_neg (by omega), if_neg (fun q => e q.2), if_neg e2]
theorem fillI_s {T : Tx} {V : Vx} {r : Nat} {x : Int32} (hr : ln T r < 100000) : ∃ V', Ja_fillI T V r x = some V' ∧ Fr (fun y => y = r) V V' ∧ (∀ f, fI V' f = fI V f) ∧ (∀ i, i < ln T r → aI V' r i = x) ∧ ∀ i, aL V' r i = aL V r i := by
  obtain ⟨V', q1, q2, q5, q3, q4⟩ := fillI_l (x := x) hr (ln T r) FU 0 V (by omega) (by rw [← FU_big]; omega)
  rw [nI_0] at q1
  exact ⟨V', by rw [Ja_fillI, lt, q1], q2, q5, fun i hi => by rw [q3, if_pos (by omega)], q4⟩
theorem fillL_l {T : Tx} {r : Nat} {x : Int64} (hr : ln T r < 100000) : ∀ (d n j : Nat) (V : Vx), j + d = ln T r → d < n → ∃ V', Ja_fillL_L6 T r x (nI (ln T r)) n V (nI j) = some V' ∧ Fr (fun y => y = r) V V' ∧ (∀ f, fI V' f = fI V f) ∧ (∀ i, aL V' r i = if j ≤ i ∧ i < ln T r then x else aL V r i) ∧ ∀ i, aI V' r i = aI V r i := by
  intro d
  induction d with
  | zero =>
    intro n j V hjd hn
    obtain ⟨n, rfl⟩ : ∃ m, n = m + 1 := ⟨n - 1, by omega⟩
    refine ⟨V, ?_, Fr.rf, fun _ => rfl, fun i => ?_, fun _ => rfl⟩
    · rw [Ja_fillL_L6, if_le (by omega) (by omega), if_pos (by omega)]
    · rw [if_neg (by omega)]
  | succ d ih =>
    intro n j V hjd hn
    obtain ⟨n, rfl⟩ : ∃ m, n = m + 1 := ⟨n - 1, by omega⟩
    obtain ⟨V', q1, q2, q5, q3, q4⟩ := ih n (j + 1) (wL V r j x) (by omega) (by omega)
    refine ⟨V', ?_, (Fr.wL (P := fun y => y = r) _ _ _ _ rfl).tr q2, fun f => by rw [q5]; rfl, fun i => ?_, fun i => by rw [q4]; rfl⟩
    · rw [Ja_fillL_L6, if_le (by omega) (by omega), if_neg (by omega), gd_s (inb_n (by omega) (by omega)), lt, cl_n (by omega), nI_1, q1]
    · rw [q3, aL_wL]
      by_cases e : i = j
      · rw [if_neg (by omega), if_pos ⟨rfl, e⟩, if_pos (by omega)]
      · by_cases e2 : j ≤ i ∧ i < ln T r
        · rw [if_pos (by omega), if_pos e2]
        · rw [if_neg (by omega), if_neg (fun q => e q.2), if_neg e2]
theorem fillL_s {T : Tx} {V : Vx} {r : Nat} {x : Int64} (hr : ln T r < 100000) : ∃ V', Ja_fillL T V r x = some V' ∧ Fr (fun y => y = r) V V' ∧ (∀ f, fI V' f = fI V f) ∧ (∀ i, i < ln T r → aL V' r i = x) ∧ ∀ i, aI V' r i = aI V r i := by
  obtain ⟨V', q1, q2, q5, q3, q4⟩ := fillL_l (x := x) hr (ln T r) FU 0 V (by omega) (by rw [← FU_big]; omega)
  rw [nI_0] at q1
  exact ⟨V', by rw [Ja_fillL, lt, q1], q2, q5, fun i hi => by rw [q3, if_pos (by omega)], q4⟩
/-! ===== letters of a row ===== -/
def smF (f : Nat → Nat) : Nat → Nat → Nat
  | 0, _ => 0
  | d + 1, j => f j + smF f d (j + 1)
theorem lettersOf_l {T : Tx} {V : Vx} {L : Nat} {X : Lex} {lo : Bool} {st : Nat → Bool} (h : LexAt T V L X lo st) {a r cap : Nat} {l : List Nat} (hr : RowAt T V a r cap l) (hl : ∀ j, j < l.length → ch l j < ns X) : ∀ (d n c j : Nat), j + d = l.length → d < n → Lx_lettersOf_L4 T V L a n (nI c) (nI j) = some (nI (c + smF (fun i => (su X (ch l i)).length) d j)) := by
  have h1 := hr.2.2.2.2.2.2.1
  have h2 := hr.2.2.2.2.1
  intro d
  induction d with
  | zero =>
    intro n c j hjd hn
    obtain ⟨n, rfl⟩ : ∃ m, n = m + 1 := ⟨n - 1, by omega⟩
    rw [Lx_lettersOf_L4.eq_def]
    dsimp only
    rw [Ro_size_s hr, bd_s, if_le (by omega) (by omega), if_pos (by omega)]
    rfl
  | succ d ih =>
    intro n c j hjd hn
    obtain ⟨n, rfl⟩ : ∃ m, n = m + 1 := ⟨n - 1, by omega⟩
    obtain ⟨k1, k2, k3, f1, f2, f3, f4⟩ := h.sgn (hl j (by omega))
    rw [Lx_lettersOf_L4.eq_def]
    dsimp only
    rw [Ro_size_s hr, bd_s, if_le (by omega) (by omega), if_neg (by omega), Ro_at_s hr j (by omega), bd_s, signAt_s h (hl j (by omega)), bd_s]
    dsimp only
    rw [ck_s k1, bd_s, k2, ck_s k3, bd_s, Le_size_s f4, bd_s, lt, nI_add, nI_1, ih n _ (j + 1) (by omega) (by omega), smF]
    congr 2
    omega
theorem lettersOf_s {T : Tx} {V : Vx} {L : Nat} {X : Lex} {lo : Bool} {st : Nat → Bool} (h : LexAt T V L X lo st) {a r cap : Nat} {l : List Nat} (hr : RowAt T V a r cap l) (hl : ∀ j, j < l.length → ch l j < ns X) : Lx_lettersOf T V L a = some (nI (smF (fun i => (su X (ch l i)).length) l.length 0)) := by
  have h1 := hr.2.2.2.2.2.2.1
  have h2 := hr.2.2.2.2.1
  have := lettersOf_l h hr hl l.length FU 0 0 (by omega) (by rw [← FU_big]; omega)
  rw [nI_0] at this
  rw [Lx_lettersOf, this, Nat.zero_add]
