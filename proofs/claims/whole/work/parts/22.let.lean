/-! ===== words on lists of letters ===== -/
def isV (c : Nat) : Bool := c == 97 || c == 101 || c == 105 || c == 111 || c == 117
def alF (f : Nat → Bool) : Nat → Nat → Bool
  | 0, _ => true
  | d + 1, j => f j && alF f d (j + 1)
def ctF (f : Nat → Bool) : Nat → Nat → Nat
  | 0, _ => 0
  | d + 1, j => (if f j = true then 1 else 0) + ctF f d (j + 1)
theorem alF_iff (f : Nat → Bool) : ∀ (d j : Nat), alF f d j = true ↔ ∀ i, j ≤ i → i < j + d → f i = true := by
  intro d
  induction d with
  | zero => intro j; simp [alF]; omega
  | succ d ih =>
    intro j
    rw [alF, Bool.and_eq_true, ih]
    constructor
    · rintro ⟨h1, h2⟩ i hi hi2
      by_cases e : i = j
      · rw [e]; exact h1
      · exact h2 i (by omega) (by omega)
    · intro h
      exact ⟨h j (by omega) (by omega), fun i hi hi2 => h i (by omega) (by omega)⟩
theorem alF_congr {f g : Nat → Bool} : ∀ (d j : Nat), (∀ i, j ≤ i → i < j + d → f i = g i) → alF f d j = alF g d j := by
  intro d
  induction d with
  | zero => intro j _; rfl
  | succ d ih =>
    intro j h
    rw [alF, alF, h j (by omega) (by omega), ih (j + 1) (fun i a b => h i (by omega) (by omega))]
/-- the letters u lie in w from place k on -/
def lies (w u : List Nat) (k : Nat) : Bool := decide (k + u.length ≤ w.length) && alF (fun i => ch w (k + i) == ch u i) u.length 0
/-- the first place behind the letters u, when w is written up to k -/
def pbF (lo : Bool) (w u : List Nat) : Nat → Nat → Option Nat
  | 0, _ => none
  | d + 1, k => if lies w u k = true then some (k + u.length) else if (lo && isV (ch w k)) = true then pbF lo w u d (k + 1) else none
def pb (lo : Bool) (w u : List Nat) (k : Nat) : Option Nat := pbF lo w u (w.length - k) k
/-- w is whole when it is written up to k -/
def me (lo : Bool) (w : List Nat) (k : Nat) : Bool := alF (fun i => lo && isV (ch w i)) (w.length - k) k
theorem gD_lt {l : List Nat} {m : Nat} (h : ∀ x ∈ l, x < m) (hm : 0 < m) (j : Nat) : ch l j < m := by
  unfold ch
  by_cases hj : j < l.length
  · rw [List.getD_eq_getElem?_getD, List.getElem?_eq_getElem hj]
    exact h _ (List.getElem_mem hj)
  · rw [List.getD_eq_getElem?_getD, List.getElem?_eq_none (by omega)]
    exact hm
theorem Le_hasAt_l {T : Tx} {V : Vx} {a r c1 a2 r2 c2 : Nat} {lw lu : List Nat} (h : LetAt T V a r c1 lw) (h2 : LetAt T V a2 r2 c2 lu) (k : Nat) (hk : k + lu.length ≤ lw.length) : ∀ (d n j : Nat), j + d = lu.length → d < n → Le_hasAt_L21 T V a (nI k) a2 n (nI j) = some (bi (alF (fun i => ch lw (k + i) == ch lu i) d j)) := by
  obtain ⟨ka, er, kr, lr, hc, es, hl, hj, hx⟩ := h
  obtain ⟨ka2, er2, kr2, lr2, hc2, es2, hl2, hj2, hx2⟩ := h2
  intro d
  induction d with
  | zero =>
    intro n j hjd hn
    obtain ⟨n, rfl⟩ : ∃ m, n = m + 1 := ⟨n - 1, by omega⟩
    rw [Le_hasAt_L21, es2, if_le (by omega) (by omega), if_pos (by omega)]
    rfl
  | succ d ih =>
    intro n j hjd hn
    obtain ⟨n, rfl⟩ : ∃ m, n = m + 1 := ⟨n - 1, by omega⟩
    have b1 := gD_lt hx (by omega) (k + j)
    have b2 := gD_lt hx2 (by omega) j
    rw [Le_hasAt_L21, es2, if_le (by omega) (by omega), if_neg (by omega), er2, ck_s kr2, bd_s, lr2, if_le (by omega) (by omega), if_neg (by omega), er, ck_s kr, bd_s, lr, nI_add, if_le (by omega) (by omega), if_neg (by omega), bd_s, lr, gd_s (inb_n (by omega) (by omega)), bd_s, lr2, gd_s (inb_n (by omega) (by omega)), cl_n (by omega), cl_n (by omega), hj (k + j) (by omega), hj2 j (by omega), if_eqn (by omega) (by omega), nI_1, ih n (j + 1) (by omega) (by omega), alF]
    by_cases e : ch lw (k + j) = ch lu j
    · rw [if_pos e]
      simp [e]
    · rw [if_neg e]
      simp [e, bi]
theorem Le_hasAt_s {T : Tx} {V : Vx} {a r c1 a2 r2 c2 : Nat} {lw lu : List Nat} (h : LetAt T V a r c1 lw) (h2 : LetAt T V a2 r2 c2 lu) (k : Nat) (hk : k < 100000) : Le_hasAt T V a (nI k) a2 = some (bi (lies lw lu k)) := by
  have hh := h
  have hh2 := h2
  obtain ⟨ka, er, kr, lr, hc, es, hl, hj, hx⟩ := h
  obtain ⟨ka2, er2, kr2, lr2, hc2, es2, hl2, hj2, hx2⟩ := h2
  rw [Le_hasAt, if_neg (n_lt (by omega)), es, es2]
  have hle : (nI lu.length ≤ nI lw.length - nI k) ↔ k + lu.length ≤ lw.length := by
    rw [i_le, pk_sub_toInt (by omega) (by omega), nI_toInt (by omega)]
    omega
  by_cases e : k + lu.length ≤ lw.length
  · rw [if_pos (hle.mpr e)]
    have := Le_hasAt_l hh hh2 k e lu.length FU 0 (by omega) (by rw [← FU_big]; omega)
    rw [nI_0] at this
    rw [this, lies]
    simp [e]
  · rw [if_neg (fun q => e (hle.mp q)), lies]
    simp [e, bi]
theorem Le_isVowelAt_s {T : Tx} {V : Vx} {a r cap : Nat} {l : List Nat} (h : LetAt T V a r cap l) (j : Nat) (hj : j < l.length) : Le_isVowelAt T V a (nI j) = some (bi (isV (ch l j))) := by
  obtain ⟨ka, er, kr, lr, hc, es, hl, hjj, hx⟩ := h
  have b1 := gD_lt hx (by omega) j
  rw [Le_isVowelAt, if_neg (n_lt (by omega)), es, if_le (by omega) (by omega), if_neg (by omega), er, ck_s kr, bd_s, lr, if_ltn (by omega) (by omega), if_pos (by omega), bd_s, lr, gd_s (inb_n (by omega) (by omega)), cl_n (by omega), hjj j hj]
  generalize ch l j = x at b1 ⊢
  have e : ∀ m, m < 1000 → (nI x = nI m ↔ x = m) := fun m hm => nI_eq (by omega) (by omega)
  rw [show (97 : Int32) = nI 97 from rfl, show (101 : Int32) = nI 101 from rfl, show (105 : Int32) = nI 105 from rfl, show (111 : Int32) = nI 111 from rfl, show (117 : Int32) = nI 117 from rfl]
  simp only [e 97 (by omega), e 101 (by omega), e 105 (by omega), e 111 (by omega), e 117 (by omega)]
  unfold isV bi
  by_cases h : x = 97 ∨ x = 101 ∨ x = 105 ∨ x = 111 ∨ x = 117
  · rw [if_pos h, if_pos]
    simpa [or_assoc] using h
  · rw [if_neg h, if_neg]
    simpa [or_assoc] using h
theorem Le_vowels_l {T : Tx} {V : Vx} {a r cap : Nat} {l : List Nat} (h : LetAt T V a r cap l) : ∀ (d n c j : Nat), j + d = l.length → d < n → Le_vowels_L4 T V a n (nI c) (nI j) = some (nI (c + ctF (fun i => isV (ch l i)) d j)) := by
  have hh := h
  obtain ⟨ka, er, kr, lr, hc, es, hl, hjj, hx⟩ := h
  intro d
  induction d with
  | zero =>
    intro n c j hjd hn
    obtain ⟨n, rfl⟩ : ∃ m, n = m + 1 := ⟨n - 1, by omega⟩
    rw [Le_vowels_L4, es, if_le (by omega) (by omega), if_pos (by omega)]
    rfl
  | succ d ih =>
    intro n c j hjd hn
    obtain ⟨n, rfl⟩ : ∃ m, n = m + 1 := ⟨n - 1, by omega⟩
    rw [Le_vowels_L4, es, if_le (by omega) (by omega), if_neg (by omega), Le_isVowelAt_s hh j (by omega), bd_s, if_bi, nI_1, nI_1, ih n c (j + 1) (by omega) (by omega), ih n (c + 1) (j + 1) (by omega) (by omega), ctF]
    by_cases e : isV (ch l j) = true
    · rw [if_pos e, if_pos e]; congr 2; omega
    · rw [if_neg e, if_neg e]; congr 2; omega
theorem Le_vowels_s {T : Tx} {V : Vx} {a r cap : Nat} {l : List Nat} (h : LetAt T V a r cap l) : Le_vowels T V a = some (nI (ctF (fun i => isV (ch l i)) l.length 0)) := by
  have hl := h.2.2.2.2.2.2.1
  have hc := h.2.2.2.2.1
  have := Le_vowels_l h l.length FU 0 0 (by omega) (by rw [← FU_big]; omega)
  rw [nI_0] at this
  rw [Le_vowels, this, Nat.zero_add]
/-- the first place of a letter from j on -/
def fdF (l : List Nat) (c : Nat) : Nat → Nat → Option Nat
  | 0, _ => none
  | d + 1, j => if ch l j = c then some j else fdF l c d (j + 1)
def oI (o : Option Nat) : Int32 := match o with
  | none => -4
  | some k => nI k
theorem Le_find_l {T : Tx} {V : Vx} {a r cap : Nat} {l : List Nat} (h : LetAt T V a r cap l) (c : Nat) (hc128 : c < 128) : ∀ (d n j : Nat), j + d = l.length → d < n → Le_find_L6 T V a (nI c) n (nI j) = some (oI (fdF l c d j)) := by
  have hh := h
  obtain ⟨ka, er, kr, lr, hc, es, hl, hjj, hx⟩ := h
  intro d
  induction d with
  | zero =>
    intro n j hjd hn
    obtain ⟨n, rfl⟩ : ∃ m, n = m + 1 := ⟨n - 1, by omega⟩
    rw [Le_find_L6, es, if_le (by omega) (by omega), if_pos (by omega)]
    rfl
  | succ d ih =>
    intro n j hjd hn
    obtain ⟨n, rfl⟩ : ∃ m, n = m + 1 := ⟨n - 1, by omega⟩
    have b1 := gD_lt hx (by omega) j
    rw [Le_find_L6, es, if_le (by omega) (by omega), if_neg (by omega), Le_at_s hh j (by omega), bd_s, if_eqn (by omega) (by omega), nI_1, ih n (j + 1) (by omega) (by omega), fdF]
    by_cases e : ch l j = c
    · rw [if_pos e, if_pos e]; rfl
    · rw [if_neg e, if_neg e]
theorem Le_find_s {T : Tx} {V : Vx} {a r cap : Nat} {l : List Nat} (h : LetAt T V a r cap l) (c : Nat) (hc128 : c < 128) (j : Nat) (hj : j ≤ l.length) : Le_find T V a (nI c) (nI j) = some (oI (fdF l c (l.length - j) j)) := by
  have hl := h.2.2.2.2.2.2.1
  have hc := h.2.2.2.2.1
  rw [Le_find, lt, if_neg (n_lt (by omega))]
  exact Le_find_l h c hc128 (l.length - j) FU j (by omega) (by rw [← FU_big]; omega)
/-! ===== what stays ===== -/
def Fr (P : Nat → Prop) (V V' : Vx) : Prop := fR V' = fR V ∧ aR V' = aR V ∧ (∀ f a, ¬ P a → fI V' f a = fI V f a) ∧ (∀ a i, ¬ P a → aI V' a i = aI V a i) ∧ (∀ a i, ¬ P a → aL V' a i = aL V a i)
theorem Fr.rf {P : Nat → Prop} {V : Vx} : Fr P V V := ⟨rfl, rfl, fun _ _ _ => rfl, fun _ _ _ => rfl, fun _ _ _ => rfl⟩
theorem Fr.tr {P : Nat → Prop} {V V1 V2 : Vx} (h : Fr P V V1) (h2 : Fr P V1 V2) : Fr P V V2 :=
  ⟨h2.1.trans h.1, h2.2.1.trans h.2.1, fun f a q => (h2.2.2.1 f a q).trans (h.2.2.1 f a q), fun a i q => (h2.2.2.2.1 a i q).trans (h.2.2.2.1 a i q), fun a i q => (h2.2.2.2.2 a i q).trans (h.2.2.2.2 a i q)⟩
theorem Fr.mo {P Q : Nat → Prop} {V V1 : Vx} (h : Fr P V V1) (hq : ∀ a, P a → Q a) : Fr Q V V1 :=
  ⟨h.1, h.2.1, fun f a q => h.2.2.1 f a (fun z => q (hq a z)), fun a i q => h.2.2.2.1 a i (fun z => q (hq a z)), fun a i q => h.2.2.2.2 a i (fun z => q (hq a z))⟩
theorem Fr.sI {P : Nat → Prop} (V : Vx) (f a : Nat) (v : Int32) (h : P a) : Fr P V (sI V f a v) := by
  refine ⟨rfl, rfl, fun f' a' q => ?_, fun _ _ _ => rfl, fun _ _ _ => rfl⟩
  rw [fI_sI, if_neg]
  rintro ⟨-, rfl⟩
  exact q h
theorem Fr.wI {P : Nat → Prop} (V : Vx) (a i : Nat) (v : Int32) (h : P a) : Fr P V (wI V a i v) := by
  refine ⟨rfl, rfl, fun _ _ _ => rfl, fun a' i' q => ?_, fun _ _ _ => rfl⟩
  rw [aI_wI, if_neg]
  rintro ⟨rfl, -⟩
  exact q h
theorem Fr.wL {P : Nat → Prop} (V : Vx) (a i : Nat) (v : Int64) (h : P a) : Fr P V (wL V a i v) := by
  refine ⟨rfl, rfl, fun _ _ _ => rfl, fun _ _ _ => rfl, fun a' i' q => ?_⟩
  rw [aL_wL, if_neg]
  rintro ⟨rfl, -⟩
  exact q h
def LetSh (T : Tx) (V : Vx) (a r cap : Nat) : Prop := kd T a = 1 ∧ fR V 100 a = some r ∧ kd T r = 10 ∧ ln T r = cap ∧ cap < 1000
theorem LetAt.sh {T : Tx} {V : Vx} {a r cap : Nat} {l : List Nat} (h : LetAt T V a r cap l) : LetSh T V a r cap := ⟨h.1, h.2.1, h.2.2.1, h.2.2.2.1, h.2.2.2.2.1⟩
theorem LetSh.fr {T : Tx} {V V' : Vx} {a r cap : Nat} {P : Nat → Prop} (h : LetSh T V a r cap) (hF : Fr P V V') : LetSh T V' a r cap := ⟨h.1, by rw [hF.1]; exact h.2.1, h.2.2⟩
theorem LetAt.fr {T : Tx} {V V' : Vx} {a r cap : Nat} {l : List Nat} {P : Nat → Prop} (h : LetAt T V a r cap l) (hF : Fr P V V') (ha : ¬ P a) (hr : ¬ P r) : LetAt T V' a r cap l :=
  ⟨h.1, by rw [hF.1]; exact h.2.1, h.2.2.1, h.2.2.2.1, h.2.2.2.2.1, by rw [hF.2.2.1 _ _ ha]; exact h.2.2.2.2.2.1, h.2.2.2.2.2.2.1, fun j hj => by rw [hF.2.2.2.1 _ _ hr]; exact h.2.2.2.2.2.2.2.1 j hj, h.2.2.2.2.2.2.2.2⟩
theorem ch_app1 (l : List Nat) (c j : Nat) : ch (l ++ [c]) j = if j < l.length then ch l j else if j = l.length then c else 0 := by
  unfold ch
  rw [List.getD_eq_getElem?_getD, List.getD_eq_getElem?_getD]
  by_cases h : j < l.length
  · rw [if_pos h, List.getElem?_append_left h]
  · rw [if_neg h, List.getElem?_append_right (by omega)]
    by_cases h2 : j = l.length
    · subst h2; simp
    · rw [if_neg h2, List.getElem?_eq_none (by simp; omega)]; rfl
theorem Le_put_s {T : Tx} {V : Vx} {a r cap : Nat} {l : List Nat} (h : LetAt T V a r cap l) (c : Nat) (hc128 : c < 128) (hlt : l.length < cap) : ∃ V', Le_put T V a (nI c) = some V' ∧ Fr (fun x => x = a ∨ x = r) V V' ∧ LetAt T V' a r cap (l ++ [c]) := by
  obtain ⟨ka, er, kr, lr, hc, es, hl, hj, hx⟩ := h
  refine ⟨sI (wI V r l.length (nI c)) 101 a (nI (l.length + 1)), ?_, (Fr.wI _ _ _ _ (Or.inr rfl)).tr (Fr.sI _ _ _ _ (Or.inl rfl)), ka, er, kr, lr, hc, ?_, by simp; omega, fun j hjl => ?_, fun x hxl => ?_⟩
  · rw [Le_put, es, if_neg (n_lt (by omega)), er, ck_s kr, bd_s, lr, if_le (by omega) (by omega), if_neg (by omega), bd_s, lr, gd_s (inb_n (by omega) (by omega)), cl_n (by omega), nar_char (by omega), lt, lt, fI_wI, es, nI_1]
  · rw [fI_sI, if_pos ⟨rfl, rfl⟩]; simp
  · rw [aI_sI, aI_wI, ch_app1]
    have hjl : j < l.length + 1 := by simpa using hjl
    by_cases e : j = l.length
    · rw [if_pos ⟨rfl, e⟩, if_neg (by omega), if_pos e]
    · rw [if_neg (fun q => e q.2), if_pos (by omega)]
      exact hj j (by omega)
  · rcases List.mem_append.mp hxl with q | q
    · exact hx x q
    · rw [List.mem_singleton.mp q]; exact hc128
theorem Le_put_full {T : Tx} {V : Vx} {a r cap : Nat} {l : List Nat} (h : LetAt T V a r cap l) (x : Int32) (hlt : cap ≤ l.length) : Le_put T V a x = some V := by
  obtain ⟨ka, er, kr, lr, hc, es, hl, hj, hx⟩ := h
  rw [Le_put, es, if_neg (n_lt (by omega)), er, ck_s kr, bd_s, lr, if_le (by omega) (by omega), if_pos (by omega)]
theorem Le_clear_s {T : Tx} {V : Vx} {a r cap : Nat} (h : LetSh T V a r cap) : ∃ V', Le_clear T V a = some V' ∧ Fr (fun x => x = a) V V' ∧ LetAt T V' a r cap [] := by
  obtain ⟨ka, er, kr, lr, hc⟩ := h
  refine ⟨sI V 101 a 0, rfl, Fr.sI _ _ _ _ rfl, ka, er, kr, lr, hc, ?_, Nat.zero_le _, fun j hj => absurd hj (Nat.not_lt_zero _), fun x hx => by cases hx⟩
  rw [fI_sI, if_pos ⟨rfl, rfl⟩]
  rfl
/-- the letters from i on, d of them -/
def sgF (l : List Nat) : Nat → Nat → List Nat
  | 0, _ => []
  | d + 1, i => ch l i :: sgF l d (i + 1)
theorem sgF_len (l : List Nat) : ∀ d i, (sgF l d i).length = d := by
  intro d
  induction d with
  | zero => intro i; rfl
  | succ d ih => intro i; rw [sgF, List.length_cons, ih]
def isA (c : Nat) : Bool := decide (97 ≤ c) && decide (c ≤ 122)
theorem Le_become_l {T : Tx} {a r cap b rb cb : Nat} {ls : List Nat} (hne : b ≠ a ∧ b ≠ r ∧ rb ≠ a ∧ rb ≠ r) (e : Nat) (he : e ≤ ls.length) : ∀ (d n i : Nat) (V : Vx) (l : List Nat), i + d = e → d < n → LetAt T V a r cap l → LetAt T V b rb cb ls → l.length + d ≤ cap → ∃ V', Le_become_L25 T a b (nI e) n V (nI i) = some (bi (alF (fun i => isA (ch ls i)) d i), V') ∧ Fr (fun x => x = a ∨ x = r) V V' ∧ (alF (fun i => isA (ch ls i)) d i = true → LetAt T V' a r cap (l ++ sgF ls d i)) := by
  intro d
  induction d with
  | zero =>
    intro n i V l hid hn ha hb hl
    have hb' := hb
    obtain ⟨ka, er, kr, lr, hc, es, hll, hj, hx⟩ := hb
    obtain ⟨n, rfl⟩ : ∃ m, n = m + 1 := ⟨n - 1, by omega⟩
    refine ⟨V, ?_, Fr.rf, fun _ => by rw [sgF, List.append_nil]; exact ha⟩
    rw [Le_become_L25, if_le (by omega) (by omega), if_pos (by omega)]
    rfl
  | succ d ih =>
    intro n i V l hid hn ha hb hl
    have hb' := hb
    obtain ⟨ka, er, kr, lr, hc, es, hll, hj, hx⟩ := hb
    obtain ⟨n, rfl⟩ : ∃ m, n = m + 1 := ⟨n - 1, by omega⟩
    have b1 := gD_lt hx (by omega) i
    rw [Le_become_L25, if_le (by omega) (by omega), if_neg (by omega), Le_at_s hb' i (by omega), bd_s, show (97 : Int32) = nI 97 from rfl, if_ltn (by omega) (by omega), show (122 : Int32) = nI 122 from rfl, if_le (by omega) (by omega), i2c_n (by omega), alF]
    by_cases c1 : ch ls i < 97
    · rw [if_pos c1]
      have c2 : ¬ 97 ≤ ch ls i := by omega
      exact ⟨V, by simp [isA, c2, bi], Fr.rf, fun q => by simp [isA, c2] at q⟩
    · rw [if_neg c1]
      by_cases c2 : ch ls i ≤ 122
      · rw [if_pos c2]
        obtain ⟨V1, p1, p2, p3⟩ := Le_put_s ha (ch ls i) (by omega) (by omega)
        obtain ⟨V2, q1, q2, q3⟩ := ih n (i + 1) V1 (l ++ [ch ls i]) (by omega) (by omega) p3 (hb'.fr p2 (by rintro (z | z); exact hne.1 z; exact hne.2.1 z) (by rintro (z | z); exact hne.2.2.1 z; exact hne.2.2.2 z)) (by simp; omega)
        have h1 : isA (ch ls i) = true := by simp [isA, c2]; omega
        rw [p1, bd_s, nI_1, q1, h1, Bool.true_and]
        refine ⟨V2, rfl, p2.tr q2, fun q => ?_⟩
        have := q3 q
        rw [List.append_assoc] at this
        exact this
      · rw [if_neg c2]
        exact ⟨V, by simp [isA, c2, bi], Fr.rf, fun q => by simp [isA, c2] at q⟩
theorem Le_become_s {T : Tx} {V : Vx} {a r cap b rb cb : Nat} {ls : List Nat} (hne : b ≠ a ∧ b ≠ r ∧ rb ≠ a ∧ rb ≠ r) (ha : LetSh T V a r cap) (hb : LetAt T V b rb cb ls) (i e : Nat) (hi : i ≤ 1000) (he : e ≤ ls.length) : ∃ V', Le_become T V a b (nI i) (nI e) = some (bi (decide (i < e) && decide (e - i ≤ cap) && alF (fun i => isA (ch ls i)) (e - i) i), V') ∧ Fr (fun x => x = a ∨ x = r) V V' ∧ ((decide (i < e) && decide (e - i ≤ cap) && alF (fun i => isA (ch ls i)) (e - i) i) = true → LetAt T V' a r cap (sgF ls (e - i) i)) := by
  obtain ⟨V1, p1, p2, p3⟩ := Le_clear_s ha
  have hb1 := hb.fr p2 hne.1 hne.2.2.1
  have hll := hb.2.2.2.2.2.2.1
  have hcb := hb.2.2.2.2.1
  have hcap := ha.2.2.2.2
  have p2' : Fr (fun x => x = a ∨ x = r) V V1 := p2.mo fun _ h => Or.inl h
  rw [Le_become, p1, bd_s, if_le (by omega) (by omega)]
  by_cases c1 : e ≤ i
  · rw [if_pos c1]
    have c2 : ¬ i < e := by omega
    exact ⟨V1, by simp [c2, bi], p2', fun q => by simp [c2] at q⟩
  · rw [if_neg c1, p3.2.1, ck_s p3.2.2.1, bd_s, p3.2.2.2.1, pk_sub (by omega), if_le (by omega) (by omega)]
    by_cases c2 : e - i ≤ cap
    · rw [if_pos c2]
      obtain ⟨V2, q1, q2, q3⟩ := Le_become_l hne e he (e - i) FU i V1 [] (by omega) (by rw [← FU_big]; omega) p3 hb1 (by simp; omega)
      have c3 : i < e := by omega
      refine ⟨V2, ?_, p2'.tr q2, fun q => ?_⟩
      · rw [q1]; simp [c2, c3]
      · exact q3 (by simp [c2, c3] at q; exact q)
    · rw [if_neg c2]
      exact ⟨V1, by simp [c2, bi], p2', fun q => by simp [c2] at q⟩
