/-! ===== the memory by offsets from the cell b on ===== -/
abbrev Tx : Type := (Nat → Nat) × (Nat → Nat) × Nat
abbrev Vx : Type := (Nat → Nat → Int32) × (Nat → Nat → Option Nat) × (Nat → Nat → Int32) × (Nat → Nat → Int64) × (Nat → Nat → Option Nat)
def kd (T : Tx) (a : Nat) : Nat := T.1 a
def ln (T : Tx) (a : Nat) : Nat := T.2.1 a
def tp (T : Tx) : Nat := T.2.2
def fI (V : Vx) (f a : Nat) : Int32 := V.1 f a
def fR (V : Vx) (f a : Nat) : Option Nat := V.2.1 f a
def aI (V : Vx) (a i : Nat) : Int32 := V.2.2.1 a i
def aL (V : Vx) (a i : Nat) : Int64 := V.2.2.2.1 a i
def aR (V : Vx) (a i : Nat) : Option Nat := V.2.2.2.2 a i
def u2 {α : Type} (g : Nat → Nat → α) (f a : Nat) (v : α) : Nat → Nat → α := fun f' a' => if f' = f ∧ a' = a then v else g f' a'
def sI (V : Vx) (f a : Nat) (v : Int32) : Vx := (u2 V.1 f a v, V.2)
def sR (V : Vx) (f a : Nat) (v : Option Nat) : Vx := (V.1, u2 V.2.1 f a v, V.2.2)
def wI (V : Vx) (a i : Nat) (v : Int32) : Vx := (V.1, V.2.1, u2 V.2.2.1 a i v, V.2.2.2)
def wL (V : Vx) (a i : Nat) (v : Int64) : Vx := (V.1, V.2.1, V.2.2.1, u2 V.2.2.2.1 a i v, V.2.2.2.2)
def wR (V : Vx) (a i : Nat) (v : Option Nat) : Vx := (V.1, V.2.1, V.2.2.1, V.2.2.2.1, u2 V.2.2.2.2 a i v)
/-- a new object's or array's kind and length -/
def nT (T : Tx) (k n : Nat) : Tx := (fun a => if a = T.2.2 then k else T.1 a, fun a => if a = T.2.2 then n else T.2.1 a, T.2.2 + 1)
/-- a new cell holds zeros -/
def zV (T : Tx) (V : Vx) : Vx := (fun f a => if a = T.2.2 then 0 else V.1 f a, fun f a => if a = T.2.2 then none else V.2.1 f a, fun a i => if a = T.2.2 then 0 else V.2.2.1 a i, fun a i => if a = T.2.2 then 0 else V.2.2.2.1 a i, fun a i => if a = T.2.2 then none else V.2.2.2.2 a i)
def rv (b : Nat) (o : Option Nat) : Value := va_rf (o.map (fun k => b + k))
theorem rv_cat (b : Nat) (o : Option Nat) : (rv b o).category = 1 := by cases o <;> rfl
theorem rv_isr (b : Nat) (o : Option Nat) : rv b o = .null ∨ ∃ a, rv b o = .ref a := by
  cases o with
  | none => exact Or.inl rfl
  | some a => exact Or.inr ⟨b + a, rfl⟩
def rft : List (List Bool) := [[true, true, false], [true, false], [true, true, false, false, false], [true, true, true, true, true], [true, false], [true, true, true, true, true, false], [true, false, false, false], [true, false], [true, true, true, true, true, true, true, true], [false, true, false, true, true, true, true, false, true, true, true, false, true, true, false, true, true, true, true, true]]
def isRf (c k : Nat) : Bool := (rft.getD c []).getD k false
def nf (c : Nat) : Nat := (rft.getD c []).length
def cv (b : Nat) (V : Vx) (c a k : Nat) : Value := if isRf c k = true then rv b (fR V (100 * c + k) a) else .int (fI V (100 * c + k) a)
def ce (b : Nat) (ca : Nat → ClassId) (T : Tx) (V : Vx) (a : Nat) : va_E :=
  if kd T a < 10 then .inr (kd T a, (List.range (nf (kd T a))).map (cv b V (kd T a) a))
  else if kd T a < 12 then .inl (ca (kd T a), ln T a, .inl (aI V a))
  else if kd T a = 12 then .inl (ca (kd T a), ln T a, .inr (.inl (aL V a)))
  else .inl (ca (kd T a), ln T a, .inr (.inr (.inr (.inr (fun i => (aR V a i).map (fun k => b + k))))))
def cs (b : Nat) (ca : Nat → ClassId) (T : Tx) (V : Vx) : va_W := (List.range (tp T)).map (fun a => (b + a, ce b ca T V a))
def tyl (ca : Nat → ClassId) : List (ClassId × FieldType) := [(ca 10, .char), (ca 11, .int), (ca 12, .long), (ca 13, .object "RebusSigns$Row"), (ca 14, .object "RebusSigns$Sign"), (ca 15, .object "RebusSigns$Word")]
theorem cs_at {b : Nat} {ca : Nat → ClassId} {T : Tx} {V : Vx} {a : Nat} (h : a < tp T) : (cs b ca T V)[a]? = some (b + a, ce b ca T V a) := by
  simp [cs, h]
theorem cs_len (b : Nat) (ca : Nat → ClassId) (T : Tx) (V : Vx) : (cs b ca T V).length = tp T := by simp [cs]
theorem cs_get {b : Nat} {ca : Nat → ClassId} {T : Tx} {V : Vx} {a : Nat} {q : Nat × va_E} (h : (cs b ca T V)[a]? = some q) : a < tp T ∧ q = (b + a, ce b ca T V a) := by
  have hl : a < (cs b ca T V).length := (List.getElem?_eq_some_iff.mp h).1
  rw [cs_len] at hl
  rw [cs_at hl] at h
  exact ⟨hl, (Option.some.inj h).symm⟩
theorem cs_D (b : Nat) (ca : Nat → ClassId) (T : Tx) (V : Vx) : va_D (fun q : Nat => b ≤ q) (cs b ca T V) := by
  refine ⟨fun i j p q hi hj e => ?_, fun k q hk => ?_⟩
  · obtain ⟨-, rfl⟩ := cs_get hi
    obtain ⟨-, rfl⟩ := cs_get hj
    have e : b + i = b + j := e
    omega
  · obtain ⟨-, rfl⟩ := cs_get hk
    exact Nat.le_add_right b k
theorem ce_o {b : Nat} {ca : Nat → ClassId} {T : Tx} {V : Vx} {a c : Nat} (h : kd T a = c) (hc : c < 10) : ce b ca T V a = .inr (c, (List.range (nf c)).map (cv b V c a)) := by
  subst h
  unfold ce
  rw [if_pos hc]
theorem ce_i {b : Nat} {ca : Nat → ClassId} {T : Tx} {V : Vx} {a c : Nat} (h : kd T a = c) (hc : ¬ c < 10) (hc2 : c < 12) : ce b ca T V a = .inl (ca c, ln T a, .inl (aI V a)) := by
  subst h
  unfold ce
  rw [if_neg hc, if_pos hc2]
theorem ce_l {b : Nat} {ca : Nat → ClassId} {T : Tx} {V : Vx} {a : Nat} (h : kd T a = 12) : ce b ca T V a = .inl (ca 12, ln T a, .inr (.inl (aL V a))) := by
  unfold ce
  rw [h, if_neg (by omega), if_neg (by omega), if_pos rfl]
theorem ce_r {b : Nat} {ca : Nat → ClassId} {T : Tx} {V : Vx} {a c : Nat} (h : kd T a = c) (hc : 12 < c) : ce b ca T V a = .inl (ca c, ln T a, .inr (.inr (.inr (.inr (fun i => (aR V a i).map (fun k => b + k)))))) := by
  subst h
  unfold ce
  rw [if_neg (by omega), if_neg (by omega), if_neg (by omega)]
theorem cs_set {b : Nat} {ca : Nat → ClassId} {T : Tx} {V V' : Vx} {a : Nat} {x : va_E} (hx : ce b ca T V' a = x) (ho : ∀ a', a' ≠ a → ce b ca T V' a' = ce b ca T V a') : (cs b ca T V).set a (b + a, x) = cs b ca T V' := by
  refine List.ext_getElem? fun i => ?_
  by_cases hi : i < tp T
  · by_cases e : i = a
    · subst e
      rw [List.getElem?_set_self (by rw [cs_len]; exact hi), cs_at hi, hx]
    · rw [List.getElem?_set_ne (Ne.symm e), cs_at hi, cs_at hi, ho i e]
  · rw [List.getElem?_eq_none (by rw [List.length_set, cs_len]; omega), List.getElem?_eq_none (by rw [cs_len]; omega)]
theorem cv_ne {b : Nat} {V V' : Vx} {c a k : Nat} (h1 : fI V' (100 * c + k) a = fI V (100 * c + k) a) (h2 : fR V' (100 * c + k) a = fR V (100 * c + k) a) : cv b V' c a k = cv b V c a k := by
  unfold cv
  rw [h1, h2]
theorem map_set {f g : Nat → Value} {n k : Nat} {v : Value} (hv : g k = v) (ho : ∀ j, j ≠ k → g j = f j) : ((List.range n).map f).set k v = (List.range n).map g := by
  refine List.ext_getElem? fun i => ?_
  by_cases hi : i < n
  · by_cases e : i = k
    · subst e
      rw [List.getElem?_set_self (by simpa using hi)]
      simp [hi, hv]
    · rw [List.getElem?_set_ne (Ne.symm e)]
      simp [hi, ho i e]
  · rw [List.getElem?_eq_none (by simp; omega), List.getElem?_eq_none (by simp; omega)]
theorem ce_same {b : Nat} {ca : Nat → ClassId} {T : Tx} {V V' : Vx} {a : Nat} (h1 : ∀ f, fI V' f a = fI V f a) (h2 : ∀ f, fR V' f a = fR V f a) (h3 : aI V' a = aI V a) (h4 : aL V' a = aL V a) (h5 : aR V' a = aR V a) : ce b ca T V' a = ce b ca T V a := by
  unfold ce
  rw [h3, h4, h5, show cv b V' (kd T a) a = cv b V (kd T a) a from funext fun k => cv_ne (h1 _) (h2 _)]
theorem cs_sI {b : Nat} {ca : Nat → ClassId} {T : Tx} {V : Vx} {a c k : Nat} {v : Int32} (h : kd T a = c) (hc : c < 10) (hI : isRf c k = false) : (cs b ca T V).set a (b + a, .inr (c, ((List.range (nf c)).map (cv b V c a)).set k (.int v))) = cs b ca T (sI V (100 * c + k) a v) := by
  refine cs_set ?_ fun a' ha => ce_same (fun f => ?_) (fun f => rfl) rfl rfl rfl
  · rw [ce_o h hc, map_set]
    · simp [cv, hI, fI, sI, u2]
    · intro j hj
      refine cv_ne ?_ rfl
      simp only [fI, sI, u2]
      rw [if_neg]
      omega
  · simp only [fI, sI, u2]
    rw [if_neg]
    exact fun q => ha q.2
theorem cs_sR {b : Nat} {ca : Nat → ClassId} {T : Tx} {V : Vx} {a c k : Nat} {v : Option Nat} (h : kd T a = c) (hc : c < 10) (hI : isRf c k = true) : (cs b ca T V).set a (b + a, .inr (c, ((List.range (nf c)).map (cv b V c a)).set k (rv b v))) = cs b ca T (sR V (100 * c + k) a v) := by
  refine cs_set ?_ fun a' ha => ce_same (fun f => rfl) (fun f => ?_) rfl rfl rfl
  · rw [ce_o h hc, map_set]
    · simp [cv, hI, fR, sR, u2]
    · intro j hj
      refine cv_ne rfl ?_
      simp only [fR, sR, u2]
      rw [if_neg]
      omega
  · simp only [fR, sR, u2]
    rw [if_neg]
    exact fun q => ha q.2
theorem aI_wI_eq (V : Vx) (a i : Nat) (v : Int32) : aI (wI V a i v) a = upd (aI V a) i v := by
  funext j
  simp [aI, wI, u2, upd]
theorem aL_wL_eq (V : Vx) (a i : Nat) (v : Int64) : aL (wL V a i v) a = vp_updL (aL V a) i v := by
  funext j
  simp [aL, wL, u2, vp_updL]
theorem aR_wR_eq (V : Vx) (b a i : Nat) (v : Option Nat) : (fun j => (aR (wR V a i v) a j).map (fun k => b + k)) = va_up (fun j => (aR V a j).map (fun k => b + k)) i (v.map (fun k => b + k)) := by
  funext j
  by_cases h : j = i <;> simp [aR, wR, u2, va_up, h]
theorem cs_wI {b : Nat} {ca : Nat → ClassId} {T : Tx} {V : Vx} {a c i : Nat} {v : Int32} (h : kd T a = c) (hc : ¬ c < 10) (hc2 : c < 12) : (cs b ca T V).set a (b + a, .inl (ca c, ln T a, .inl (upd (aI V a) i v))) = cs b ca T (wI V a i v) := by
  refine cs_set ?_ fun a' ha => ce_same (fun f => rfl) (fun f => rfl) ?_ rfl rfl
  · rw [ce_i h hc hc2, aI_wI_eq]
  · funext j
    simp [aI, wI, u2, ha]
theorem cs_wL {b : Nat} {ca : Nat → ClassId} {T : Tx} {V : Vx} {a i : Nat} {v : Int64} (h : kd T a = 12) : (cs b ca T V).set a (b + a, .inl (ca 12, ln T a, .inr (.inl (vp_updL (aL V a) i v)))) = cs b ca T (wL V a i v) := by
  refine cs_set ?_ fun a' ha => ce_same (fun f => rfl) (fun f => rfl) rfl ?_ rfl
  · rw [ce_l h, aL_wL_eq]
  · funext j
    simp [aL, wL, u2, ha]
theorem cs_wR {b : Nat} {ca : Nat → ClassId} {T : Tx} {V : Vx} {a c i : Nat} {v : Option Nat} (h : kd T a = c) (hc : 12 < c) : (cs b ca T V).set a (b + a, .inl (ca c, ln T a, .inr (.inr (.inr (.inr (va_up (fun j => (aR V a j).map (fun k => b + k)) i (v.map (fun k => b + k)))))))) = cs b ca T (wR V a i v) := by
  refine cs_set ?_ fun a' ha => ce_same (fun f => rfl) (fun f => rfl) rfl rfl ?_
  · rw [ce_r h hc, aR_wR_eq]
  · funext j
    simp [aR, wR, u2, ha]
theorem nT_kd (T : Tx) (k n : Nat) : kd (nT T k n) (tp T) = k := by simp [kd, nT, tp]
theorem nT_ln (T : Tx) (k n : Nat) : ln (nT T k n) (tp T) = n := by simp [ln, nT, tp]
theorem ce_new {b : Nat} {ca : Nat → ClassId} {T : Tx} {V : Vx} {k n a : Nat} (h : a ≠ tp T) : ce b ca (nT T k n) (zV T V) a = ce b ca T V a := by
  have h' : ¬ a = T.2.2 := h
  have e1 : kd (nT T k n) a = kd T a := by simp [kd, nT, h']
  have e2 : ln (nT T k n) a = ln T a := by simp [ln, nT, h']
  have e3 : aI (zV T V) a = aI V a := by funext j; simp [aI, zV, h']
  have e4 : aL (zV T V) a = aL V a := by funext j; simp [aL, zV, h']
  have e5 : aR (zV T V) a = aR V a := by funext j; simp [aR, zV, h']
  have e6 : ∀ c, cv b (zV T V) c a = cv b V c a := fun c => funext fun j => cv_ne (by simp [fI, zV, h']) (by simp [fR, zV, h'])
  unfold ce
  rw [e1, e2, e3, e4, e5, e6]
theorem cs_new {b : Nat} {ca : Nat → ClassId} {T : Tx} {V : Vx} {k n : Nat} {x : va_E} (hx : ce b ca (nT T k n) (zV T V) (tp T) = x) : cs b ca T V ++ [(b + tp T, x)] = cs b ca (nT T k n) (zV T V) := by
  refine List.ext_getElem? fun i => ?_
  by_cases hi : i < tp T
  · rw [List.getElem?_append_left (by rw [cs_len]; exact hi), cs_at hi, cs_at (show i < tp (nT T k n) from Nat.lt_succ_of_lt hi), ce_new (by omega)]
  · by_cases e : i = tp T
    · subst e
      rw [List.getElem?_append_right (by rw [cs_len]; omega), cs_len, Nat.sub_self, cs_at (show tp T < tp (nT T k n) from Nat.lt_succ_self _), hx]
      rfl
    · rw [List.getElem?_eq_none (by rw [List.length_append, cs_len]; simp; omega), List.getElem?_eq_none (by rw [cs_len]; show T.2.2 + 1 ≤ i; have : ¬ i = T.2.2 := e; have : ¬ i < T.2.2 := hi; omega)]
/-! ===== Option, with names ===== -/
def bd {α γ : Type} (o : Option α) (f : α → Option γ) : Option γ := match o with
  | none => none
  | some a => f a
def bd2 {α β γ : Type} (o : Option (α × β)) (f : α → β → Option γ) : Option γ := match o with
  | none => none
  | some a => f a.1 a.2
def bd3 {α β δ γ : Type} (o : Option (α × β × δ)) (f : α → β → δ → Option γ) : Option γ := match o with
  | none => none
  | some a => f a.1 a.2.1 a.2.2
def bd4 {α β δ ε γ : Type} (o : Option (α × β × δ × ε)) (f : α → β → δ → ε → Option γ) : Option γ := match o with
  | none => none
  | some a => f a.1 a.2.1 a.2.2.1 a.2.2.2
theorem bd_e {α γ : Type} {o : Option α} {f : α → Option γ} {r : γ} (h : bd o f = some r) : ∃ a, o = some a ∧ f a = some r := by
  cases o with
  | none => cases h
  | some a => exact ⟨a, rfl, h⟩
theorem bd2_e {α β γ : Type} {o : Option (α × β)} {f : α → β → Option γ} {r : γ} (h : bd2 o f = some r) : ∃ a b, o = some (a, b) ∧ f a b = some r := by
  cases o with
  | none => cases h
  | some a => exact ⟨a.1, a.2, rfl, h⟩
theorem bd3_e {α β δ γ : Type} {o : Option (α × β × δ)} {f : α → β → δ → Option γ} {r : γ} (h : bd3 o f = some r) : ∃ a b c, o = some (a, b, c) ∧ f a b c = some r := by
  cases o with
  | none => cases h
  | some a => exact ⟨a.1, a.2.1, a.2.2, rfl, h⟩
theorem bd4_e {α β δ ε γ : Type} {o : Option (α × β × δ × ε)} {f : α → β → δ → ε → Option γ} {r : γ} (h : bd4 o f = some r) : ∃ a b c d, o = some (a, b, c, d) ∧ f a b c d = some r := by
  cases o with
  | none => cases h
  | some a => exact ⟨a.1, a.2.1, a.2.2.1, a.2.2.2, rfl, h⟩
theorem bd_s {α γ : Type} (a : α) (f : α → Option γ) : bd (some a) f = f a := rfl
theorem bd2_s {α β γ : Type} (a : α) (b : β) (f : α → β → Option γ) : bd2 (some (a, b)) f = f a b := rfl
theorem bd3_s {α β δ γ : Type} (a : α) (b : β) (c : δ) (f : α → β → δ → Option γ) : bd3 (some (a, b, c)) f = f a b c := rfl
theorem bd4_s {α β δ ε γ : Type} (a : α) (b : β) (c : δ) (d : ε) (f : α → β → δ → ε → Option γ) : bd4 (some (a, b, c, d)) f = f a b c d := rfl
/-- a reference that isn't null, to a cell of a kind -/
def ck (T : Tx) (c : Nat) (o : Option Nat) : Option Nat := match o with
  | none => none
  | some a => if kd T a = c then some a else none
theorem ck_e {T : Tx} {c : Nat} {o : Option Nat} {a : Nat} (h : ck T c o = some a) : o = some a ∧ kd T a = c := by
  cases o with
  | none => cases h
  | some x =>
    unfold ck at h
    dsimp only at h
    by_cases hk : kd T x = c
    · rw [if_pos hk] at h
      cases h
      exact ⟨rfl, hk⟩
    · rw [if_neg hk] at h
      cases h
theorem ck_s {T : Tx} {c a : Nat} (h : kd T a = c) : ck T c (some a) = some a := by
  unfold ck
  dsimp only
  rw [if_pos h]
/-- a place inside a row -/
def inb (i : Int32) (n : Nat) : Bool := !(decide (i < 0)) && decide (i.toNatClampNeg < n)
theorem inb_e {i : Int32} {n : Nat} (h : inb i n = true) : vp_in i n := by
  unfold inb at h
  simp only [Bool.and_eq_true, Bool.not_eq_true', decide_eq_false_iff_not, decide_eq_true_eq] at h
  rintro (q | q)
  · exact h.1 q
  · omega
theorem inb_s {i : Int32} {n : Nat} (h : vp_in i n) : inb i n = true := by
  unfold inb
  simp only [Bool.and_eq_true, Bool.not_eq_true', decide_eq_false_iff_not, decide_eq_true_eq]
  exact ⟨fun q => h (Or.inl q), Nat.not_le.mp fun q => h (Or.inr q)⟩
def gd {γ : Type} (c : Bool) (x : Option γ) : Option γ := if c = true then x else none
theorem gd_e {γ : Type} {c : Bool} {x : Option γ} {r : γ} (h : gd c x = some r) : c = true ∧ x = some r := by
  unfold gd at h
  by_cases hc : c = true
  · rw [if_pos hc] at h
    exact ⟨hc, h⟩
  · rw [if_neg hc] at h
    cases h
theorem gd_s {γ : Type} {c : Bool} {x : Option γ} (h : c = true) : gd c x = x := by
  unfold gd
  rw [if_pos h]
/-- 0 or 1 -/
def zo (v : Int32) : Bool := decide (v = 0) || decide (v = 1)
theorem zo_n {v : Int32} (h : zo v = true) : narrow .boolean (.int v) = .int v ∧ fits .boolean (.int v) = true := by
  unfold zo at h
  simp only [Bool.or_eq_true, decide_eq_true_eq] at h
  rcases h with rfl | rfl
  · exact ⟨by decide +kernel, by decide +kernel⟩
  · exact ⟨by decide +kernel, by decide +kernel⟩
