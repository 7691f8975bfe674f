/-! ===== the Model: clear words, words mixed, signs in least writings ===== -/
def FrN (V V' : Vx) : Prop := Fr (fun y => y = 166 ∨ 172 ≤ y) V V' ∧ fI V' 900 166 = fI V 900 166 ∧ fI V' 907 166 = fI V 907 166
theorem FrN.rf {V : Vx} : FrN V V := ⟨Fr.rf, rfl, rfl⟩
theorem FrN.tr {V V1 V2 : Vx} (h : FrN V V1) (h2 : FrN V1 V2) : FrN V V2 := ⟨h.1.tr h2.1, h2.2.1.trans h.2.1, h2.2.2.trans h.2.2⟩
theorem FrN.wI (V : Vx) {a i : Nat} {v : Int32} (h : 172 ≤ a) : FrN V (wI V a i v) := ⟨Fr.wI _ _ _ _ (Or.inr h), rfl, rfl⟩
theorem FrN.wL (V : Vx) {a i : Nat} {v : Int64} (h : 172 ≤ a) : FrN V (wL V a i v) := ⟨Fr.wL _ _ _ _ (Or.inr h), rfl, rfl⟩
theorem FrM.n {V V' : Vx} (h : FrM V V') : FrN V V' := ⟨h.1.mo (fun y hy => by omega), h.2⟩
theorem MwAt.frn {T : Tx} {V V' : Vx} {X : Lex} {lo : Bool} {m : Nat} (h : MwAt T V X lo m) (hF : FrN V V') : MwAt T V' X lo m := h.fr hF.1 (by omega) (by omega)
/-- how a word is clear -/
def clr (X : Lex) (lo : Bool) (st : Nat → Bool) (w : Nat) : Nat := match lfW X lo st w with
  | none => 0
  | some _ => if rd X lo st (lsW X lo st w) = 2 ^ w then 1 else match fsF (mk X st (wc X w)) (ns X) 0 with
    | none => 0
    | some k => if rd X lo st (lsW X lo st w ++ [k]) = 2 ^ w then 2 else 0
def mx (X : Lex) (lo : Bool) (st : Nat → Bool) (w v : Nat) : Bool := (lfW X lo st w).isSome && decide (lsW X lo st w = lsW X lo st v)
def mxN (X : Lex) (lo : Bool) (st : Nat → Bool) (w d j : Nat) : Nat := ctF (fun v => !(decide (v = w)) && mx X lo st w v) d j
def hs (l : List Nat) (c : Nat) : Bool := !(alF (fun i => !(ch l i == c)) l.length 0)
theorem lsW_none {X : Lex} {lo : Bool} {st : Nat → Bool} {w : Nat} (h : lfW X lo st w = none) : lsW X lo st w = [] := by
  unfold lsW
  rw [h]
section MC
variable {T : Tx} {X : Lex} {lo : Bool} {m w : Nat}
theorem oI_n4 (o : Option Nat) (h : ∀ v, o = some v → v < 2 ^ 31) {α : Type} (x y : α) : (if oI o = -4 then x else y) = if o = none then x else y := by
  cases o with
  | none => rfl
  | some v =>
    rw [show oI (some v) = nI v from rfl, if_neg (fun z => by
      have := nI_pos (h v rfl)
      rw [z] at this
      exact this (by decide)), if_neg (by simp)]
theorem markOf_l {V : Vx} (hm : MwAt T V X lo m) {c : Nat} (hc : c < 100) : ∀ (d n i : Nat), i + d = ns X → d < n → Mo_markOf_L2 T V 166 (nI c) n (nI i) = some (oI (fsF (mk X (stM m) c) d i)) := by
  have hh := hm
  obtain ⟨⟨-, ⟨c1, c2, c3⟩, -⟩, hX, ⟨hns, -, ht, -⟩, -⟩ := hh
  have n12 := hX.1
  intro d
  induction d with
  | zero =>
    intro n i hi hn
    obtain ⟨n, rfl⟩ : ∃ m, n = m + 1 := ⟨n - 1, by omega⟩
    rw [Mo_markOf_L2, c3, ck_s c1, bd_s, c2, gd_s (show inb 164 167 = true by decide), show (164 : Int32).toNatClampNeg = 164 from rfl, hns, if_le (by omega) (by omega), if_pos (by omega), fsF]
    rfl
  | succ d ih =>
    intro n i hi hn
    obtain ⟨n, rfl⟩ : ∃ m, n = m + 1 := ⟨n - 1, by omega⟩
    have hi' : i < ns X := by omega
    obtain ⟨y1, y2, y3, y4, y5⟩ := hX.2.2.1 i hi'
    obtain ⟨t1, t2, t3, t4⟩ := ht i hi'
    rw [Mo_markOf_L2, c3, ck_s c1, bd_s, c2, gd_s (show inb 164 167 = true by decide), show (164 : Int32).toNatClampNeg = 164 from rfl, hns, if_le (by omega) (by omega), if_neg (by omega), bd_s, ixS, c2, gd_s (inb_n (by omega) (by omega)), cl_n (by omega), t1, show (2 : Int32) = nI 2 from rfl, if_eqn (by omega) (by omega), bd_s, ad_1, c2, gd_s (inb_n (by omega) (by omega)), cl_n (by omega), t2, isStruck_s hm (by omega), bd_s, if_bi, ad_1, ih n (i + 1) (by omega) (by omega), fsF]
    unfold mk
    by_cases e1 : sk X i = 2
    · rw [if_pos e1, if_neg (show ¬ sk X i = 1 by omega), if_eqn (by omega) (by omega), decide_eq_true e1, Bool.true_and]
      by_cases e2 : sc X i = c
      · rw [if_pos e2, decide_eq_true e2, Bool.and_true]
        cases stM m i <;> rfl
      · rw [if_neg e2, decide_eq_false e2, Bool.and_false]
        rfl
    · rw [if_neg e1, decide_eq_false e1, Bool.false_and, Bool.false_and]
      rfl
theorem markOf_s {V : Vx} (hm : MwAt T V X lo m) {c : Nat} (hc : c < 100) : Mo_markOf T V 166 (nI c) = some (oI (fsF (mk X (stM m) c) (ns X) 0)) := by
  have n12 := hm.2.1.1
  rw [Mo_markOf]
  exact markOf_l hm hc (ns X) FU 0 (by omega) (by rw [← FU_big]; omega)
theorem SgAt_ls {V : Vx} (hX : WFX X) (hw : w < nw X) {st : Nat → Bool} (hL : LsAt V X lo st w) {n : Nat} (h : lfW X lo st w = some n) : SgAt V 176 0 X (lsW X lo st w) := by
  obtain ⟨a1, a2, a3, a4, -⟩ := lfW_s hX hw h
  intro k hk
  rw [Nat.zero_add]
  exact ⟨(hL n h).1 k (by omega), by
    have : ch (lsW X lo st w) k ∈ lsW X lo st w := by
      unfold ch
      rw [List.getD_eq_getElem?_getD, List.getElem?_eq_getElem hk]
      exact List.getElem_mem hk
    exact a4 _ this⟩
set_option maxHeartbeats 1000000 in
theorem clear_s (hw : w < nw X) {V : Vx} (hm : MwAt T V X lo m) : ∃ (V' : Vx), Mo_clear T V 166 (nI w) = some (nI (clr X lo (stM m) w), V') ∧ FrN V V' := by
  obtain ⟨V1, p1, p2, p3⟩ := leasts_s (T := T) hw hm
  have hm1 := hm.frm p2
  have hh := hm1
  obtain ⟨hSh, hX, ⟨hns, -, ht, ht2⟩, -⟩ := hh
  have hSh' := hSh
  obtain ⟨-, ⟨c1, c2, c3⟩, -, -, -, -, -, -, -, ⟨e1, e2, e3⟩, -⟩ := hSh'
  have n12 := hX.1
  have n8 := hX.2.1
  obtain ⟨x1, x2, x3⟩ := hX.2.2.2.1 w hw
  rw [Mo_clear, p1, bd2_s]
  unfold clr
  cases hlf : lfW X lo (stM m) w with
  | none => exact ⟨V1, by rw [show oI none = (-4 : Int32) from rfl, if_pos rfl]; rfl, p2.n⟩
  | some n =>
    obtain ⟨a1, a2, a3, a4, a5, -⟩ := lfW_s hX hw hlf
    have hsg := SgAt_ls hX hw p3 hlf
    have hne : lsW X lo (stM m) w ≠ [] := fun z => by rw [z] at a3; simp at a3; omega
    have hr := reads_s hm1 hsg (by rw [e2]; omega) (by rw [e2]; omega) (by omega) hne
    rw [a3] at hr
    have hrd := rd_lt X lo (stM m) (lsW X lo (stM m) w) n8
    have h2w : 2 ^ w ≤ 2 ^ 8 := Nat.pow_le_pow_right (by decide) (by omega)
    rw [show oI (some n) = nI n from rfl, if_neg (fun z => by have := nI_pos (show n < 2 ^ 31 by omega); rw [z] at this; exact this (by decide)), e3, ck_s e1, bd_s, show (0 : Int32) = nI 0 from rfl, hr, bd_s, pow_n w (by omega), if_eqn (by omega) (by omega)]
    dsimp only
    by_cases e : rd X lo (stM m) (lsW X lo (stM m) w) = 2 ^ w
    · rw [if_pos e, if_pos e]
      exact ⟨V1, rfl, p2.n⟩
    · rw [if_neg e, if_neg e, c3, ck_s c1, bd_s, ixW, c2, gd_s (inb_n (by omega) (by omega)), cl_n (by omega), (ht2 w hw).1, markOf_s hm1 (by omega), bd_s]
      cases hk : fsF (mk X (stM m) (wc X w)) (ns X) 0 with
      | none => exact ⟨V1, by rw [show oI none = (-4 : Int32) from rfl, if_pos rfl], p2.n⟩
      | some k =>
        obtain ⟨k1, k2, k3⟩ := fsF_in _ _ _ _ hk
        have hF : FrN V1 (wI V1 176 n (nI k)) := FrN.wI V1 (by decide)
        have hm2 := hm1.frn hF
        have hsg2 : SgAt (wI V1 176 n (nI k)) 176 0 X (lsW X lo (stM m) w ++ [k]) := by
          intro j hj
          rw [List.length_append, List.length_singleton] at hj
          rw [ch_app1, aI_wI, Nat.zero_add, a3]
          by_cases ej : j = n
          · rw [if_pos ⟨rfl, ej⟩, if_neg (by omega), if_pos ej]; exact ⟨rfl, by omega⟩
          · rw [if_neg (fun z => ej z.2), if_pos (by omega)]
            have := hsg j (by omega)
            rw [Nat.zero_add] at this
            exact this
        have hr2 := reads_s hm2 hsg2 (by rw [e2, List.length_append, List.length_singleton]; omega) (by rw [e2]; omega) (by rw [List.length_append, List.length_singleton]; omega) (by simp)
        rw [List.length_append, List.length_singleton, a3] at hr2
        have hrd2 := rd_lt X lo (stM m) (lsW X lo (stM m) w ++ [k]) n8
        refine ⟨wI V1 176 n (nI k), ?_, p2.n.tr hF⟩
        rw [show oI (some k) = nI k from rfl, if_neg (fun z => by have := nI_pos (show k < 2 ^ 31 by omega); rw [z] at this; exact this (by decide)), show (9 : Int32) = nI 9 from rfl, if_eqn (by omega) (by omega), if_neg (by omega), bd_s, e2, gd_s (inb_n (by omega) (by omega)), lt, cl_n (by omega), fR_wI, e3, ck_s e1, bd_s, ad_1, hr2, bd_s, if_eqn (by omega) (by omega)]
        dsimp only
        by_cases e' : rd X lo (stM m) (lsW X lo (stM m) w ++ [k]) = 2 ^ w
        · rw [if_pos e', if_pos e']; rfl
        · rw [if_neg e', if_neg e']
theorem areMixed9 (p2 r3 : Int32) : ∀ (d n k : Nat) (V : Vx), k + d = 10 → d < n → MoSh T V → ∃ V', Mo_areMixed_L9 T 166 p2 r3 n V (nI k) = some V' ∧ FrN V V' ∧ (∀ j, aI V' 177 j = if k ≤ j ∧ j < 10 then aI V 176 j else aI V 177 j) := by
  intro d
  induction d with
  | zero =>
    intro n k V hk hn hM
    obtain ⟨n, rfl⟩ : ∃ m, n = m + 1 := ⟨n - 1, by omega⟩
    refine ⟨V, ?_, FrN.rf, fun j => by rw [if_neg (by omega)]⟩
    rw [Mo_areMixed_L9, show (10 : Int32) = nI 10 from rfl, if_le (by omega) (by omega), if_pos (by omega)]
  | succ d ih =>
    intro n k V hk hn hM
    obtain ⟨n, rfl⟩ : ∃ m, n = m + 1 := ⟨n - 1, by omega⟩
    have hM' := hM
    obtain ⟨-, -, -, -, -, -, -, -, -, ⟨e1, e2, e3⟩, ⟨f1, f2, f3⟩, -⟩ := hM'
    have hF : FrN V (wI V 177 k (aI V 176 k)) := FrN.wI V (by decide)
    obtain ⟨V', g1, g2, g3⟩ := ih n (k + 1) (wI V 177 k (aI V 176 k)) (by omega) (by omega) (hM.fr hF.1)
    refine ⟨V', ?_, hF.tr g2, fun j => ?_⟩
    · rw [Mo_areMixed_L9, show (10 : Int32) = nI 10 from rfl, if_le (by omega) (by omega), if_neg (by omega), f3, ck_s f1, bd_s, e3, ck_s e1, bd_s, e2, gd_s (inb_n (by omega) (by omega)), f2, gd_s (inb_n (by omega) (by omega)), lt, cl_n (by omega), ad_1]
      exact g1
    · rw [g3, aI_wI, aI_wI]
      by_cases e : j = k
      · subst e
        rw [if_neg (by omega), if_pos ⟨rfl, rfl⟩, if_pos (by omega)]
      · rw [if_neg (show ¬ ((176 : Nat) = 177 ∧ j = k) from fun z => absurd z.1 (by decide)), if_neg (show ¬ ((177 : Nat) = 177 ∧ j = k) from fun z => e z.2)]
        by_cases e' : k + 1 ≤ j ∧ j < 10
        · rw [if_pos e', if_pos (by omega)]
        · rw [if_neg e', if_neg (by omega)]
theorem areMixed65 {V : Vx} (hM : MoSh T V) {l1 l2 : List Nat} (hl : l1.length ≤ 10) (h1 : ∀ j, j < l1.length → aI V 177 j = nI (ch l1 j) ∧ ch l1 j < 100) (h2 : ∀ j, j < l1.length → aI V 176 j = nI (ch l2 j) ∧ ch l2 j < 100) : ∀ (d n k : Nat) (c : Bool), k + d = l1.length → d < n → (c = false ∨ True) → Mo_areMixed_L65 T V 166 (nI l1.length) n (bi c) (nI k) = some (bi (c && alF (fun j => ch l1 j == ch l2 j) d k), V) := by
  obtain ⟨-, -, -, -, -, -, -, -, -, ⟨e1, e2, e3⟩, ⟨f1, f2, f3⟩, -⟩ := hM
  intro d
  induction d with
  | zero =>
    intro n k c hk hn _
    obtain ⟨n, rfl⟩ : ∃ m, n = m + 1 := ⟨n - 1, by omega⟩
    rw [Mo_areMixed_L65, if_le (by omega) (by omega), if_pos (by omega), gd_s (zo_bi c), alF, Bool.and_true]
  | succ d ih =>
    intro n k c hk hn _
    obtain ⟨n, rfl⟩ : ∃ m, n = m + 1 := ⟨n - 1, by omega⟩
    rw [Mo_areMixed_L65, if_le (by omega) (by omega), if_neg (by omega)]
    cases c with
    | false => rw [bi_f, if_pos rfl, gd_s (by decide), Bool.false_and]; rfl
    | true =>
      obtain ⟨a1, a2⟩ := h1 k (by omega)
      obtain ⟨b1, b2⟩ := h2 k (by omega)
      have i1 := ih n (k + 1) true (by omega) (by omega) (Or.inr trivial)
      have i2 := ih n (k + 1) false (by omega) (by omega) (Or.inr trivial)
      rw [bi_t] at i1
      rw [bi_f] at i2
      rw [bi_t, if_neg (by decide), f3, ck_s f1, bd_s, f2, gd_s (inb_n (by omega) (by omega)), e3, ck_s e1, bd_s, e2, gd_s (inb_n (by omega) (by omega)), cl_n (by omega), a1, b1, if_eqn (by omega) (by omega), ad_1, i1, i2, alF]
      by_cases e : ch l1 k = ch l2 k
      · rw [if_pos e, e, beq_self_eq_true]; simp only [Bool.true_and]
      · rw [if_neg e, beq_eq_false_iff_ne.mpr e]; simp only [Bool.false_and, Bool.true_and]
theorem alF_ext {l1 l2 : List Nat} (h : l1.length = l2.length) : alF (fun j => ch l1 j == ch l2 j) l1.length 0 = decide (l1 = l2) := by
  rw [Bool.eq_iff_iff, alF_iff, decide_eq_true_iff]
  constructor
  · intro h2
    exact ch_ext h (fun i hi => beq_iff_eq.mp (h2 i (Nat.zero_le i) (by omega)))
  · intro h2 i _ _
    rw [h2]
    exact beq_self_eq_true _
set_option maxHeartbeats 1000000 in
theorem areMixed_s {v : Nat} (hw : w < nw X) (hv : v < nw X) {V : Vx} (hm : MwAt T V X lo m) : ∃ (V' : Vx), Mo_areMixed T V 166 (nI w) (nI v) = some (bi (mx X lo (stM m) w v), V') ∧ FrN V V' := by
  have hX := hm.2.1
  have n12 := hX.1
  obtain ⟨V1, p1, p2, p3⟩ := leasts_s (T := T) hw hm
  have hm1 := hm.frm p2
  obtain ⟨V2, q1, q2, q3⟩ := areMixed9 (T := T) (nI v) (oI (lfW X lo (stM m) w)) 10 FU 0 V1 (by omega) (by rw [← FU_big]; omega) hm1.1
  have hm2 := hm1.frn q2
  obtain ⟨V3, r1, r2, r3⟩ := leasts_s (T := T) hv hm2
  have hm3 := hm2.frm r2
  refine ⟨V3, ?_, (p2.n.tr q2).tr r2.n⟩
  rw [Mo_areMixed, p1, bd2_s, show (0 : Int32) = nI 0 from rfl, q1, bd_s, r1, bd2_s]
  unfold mx
  cases hlf : lfW X lo (stM m) w with
  | none =>
    rw [show oI none = (-4 : Int32) from rfl, if_pos rfl, bd_s, ← FU_big, Mo_areMixed_L65, if_pos (by decide)]
    rfl
  | some n =>
    obtain ⟨a1, a2, a3, a4, a5, -⟩ := lfW_s hX hw hlf
    rw [show oI (some n) = nI n from rfl, if_neg (fun z => by have := nI_pos (show n < 2 ^ 31 by omega); rw [z] at this; exact this (by decide)), Option.isSome_some, Bool.true_and]
    have hfalse : Mo_areMixed_L65 T V3 166 (nI n) FU (nI 0) (nI 0) = some (bi false, V3) := by
      rw [← FU_big, Mo_areMixed_L65, if_le (by omega) (by omega), if_neg (by omega), show nI 0 = (0 : Int32) from rfl, if_pos rfl]
      rfl
    cases hlv : lfW X lo (stM m) v with
    | none =>
      rw [show oI none = (-4 : Int32) from rfl, if_neg (fun z => by have := nI_pos (show n < 2 ^ 31 by omega); rw [z] at this; exact this (by decide)), bd_s, hfalse, decide_eq_false (fun z => by rw [lsW_none hlv] at z; rw [z] at a3; simp at a3; omega)]
    | some n2 =>
      obtain ⟨b1, b2, b3, b4, b5, -⟩ := lfW_s hX hv hlv
      rw [show oI (some n2) = nI n2 from rfl, if_eqn (by omega) (by omega)]
      by_cases e : n = n2
      · subst e
        rw [if_pos rfl, bd_s]
        have hs1 := SgAt_ls hX hw p3 hlf
        have hs2 := SgAt_ls hX hv r3 hlv
        have := areMixed65 hm3.1 (l1 := lsW X lo (stM m) w) (l2 := lsW X lo (stM m) v) (by omega) (fun j hj => by
          obtain ⟨g1, g2⟩ := hs1 j hj
          rw [Nat.zero_add] at g1
          rw [r2.1.2.2.2.1 177 j (by omega), q3 j, if_pos (by omega)]
          exact ⟨g1, by omega⟩) (fun j hj => by
          obtain ⟨g1, g2⟩ := hs2 j (by omega)
          rw [Nat.zero_add] at g1
          exact ⟨g1, by omega⟩) (lsW X lo (stM m) w).length FU 0 true (by omega) (by rw [← FU_big]; omega) (Or.inr trivial)
        rw [a3, bi_t, Bool.true_and] at this
        rw [this, ← a3, alF_ext (by omega)]
      · rw [if_neg e, bd_s, hfalse, decide_eq_false (fun z => e (by rw [← a3, ← b3, z]))]
theorem mixed_l (hw : w < nw X) : ∀ (d n v c : Nat) (V : Vx), v + d = nw X → d < n → MwAt T V X lo m → ∃ V', Mo_mixed_L4 T 166 (nI w) n V (nI c) (nI v) = some (nI (c + mxN X lo (stM m) w d v), V') ∧ FrN V V' := by
  intro d
  induction d with
  | zero =>
    intro n v c V hv hn hm
    obtain ⟨n, rfl⟩ : ∃ m, n = m + 1 := ⟨n - 1, by omega⟩
    have hh := hm
    obtain ⟨⟨-, ⟨c1, c2, c3⟩, -⟩, hX, ⟨-, hnw, -⟩, -⟩ := hh
    have n8 := hX.2.1
    refine ⟨V, ?_, FrN.rf⟩
    rw [Mo_mixed_L4, c3, ck_s c1, bd_s, c2, gd_s (show inb 165 167 = true by decide), show (165 : Int32).toNatClampNeg = 165 from rfl, hnw, if_le (by omega) (by omega), if_pos (by omega)]
    rfl
  | succ d ih =>
    intro n v c V hv hn hm
    obtain ⟨n, rfl⟩ : ∃ m, n = m + 1 := ⟨n - 1, by omega⟩
    have hh := hm
    obtain ⟨⟨-, ⟨c1, c2, c3⟩, -⟩, hX, ⟨-, hnw, -⟩, -⟩ := hh
    have n8 := hX.2.1
    rw [Mo_mixed_L4, c3, ck_s c1, bd_s, c2, gd_s (show inb 165 167 = true by decide), show (165 : Int32).toNatClampNeg = 165 from rfl, hnw, if_le (by omega) (by omega), if_neg (by omega), if_eqn (by omega) (by omega), mxN, ctF]
    by_cases e : v = w
    · obtain ⟨V', g1, g2⟩ := ih n (v + 1) c V (by omega) (by omega) hm
      refine ⟨V', ?_, g2⟩
      rw [if_pos e, lt, show nI c + 0 = nI c from nI_add c 0, ad_1, g1, decide_eq_true e, Bool.not_true, Bool.false_and, if_neg (by decide), Nat.zero_add]
      rfl
    · obtain ⟨V1, p1, p2⟩ := areMixed_s (T := T) hw (v := v) (by omega) hm
      rw [if_neg e, p1, bd2_s, if_bi, decide_eq_false e, Bool.not_false, Bool.true_and, lt, lt, show nI c + 0 = nI c from nI_add c 0, ad_1, ad_1]
      cases mx X lo (stM m) w v with
      | true =>
        obtain ⟨V', g1, g2⟩ := ih n (v + 1) (c + 1) V1 (by omega) (by omega) (hm.frn p2)
        refine ⟨V', ?_, p2.tr g2⟩
        rw [if_pos rfl, if_pos rfl, g1, Nat.add_assoc]
        rfl
      | false =>
        obtain ⟨V', g1, g2⟩ := ih n (v + 1) c V1 (by omega) (by omega) (hm.frn p2)
        refine ⟨V', ?_, p2.tr g2⟩
        rw [if_neg (by decide), if_neg (by decide), g1, Nat.zero_add]
        rfl
theorem mixed_s (hw : w < nw X) {V : Vx} (hm : MwAt T V X lo m) : ∃ V', Mo_mixed T V 166 (nI w) = some (nI (mxN X lo (stM m) w (nw X) 0), V') ∧ FrN V V' := by
  have n8 := hm.2.1.2.1
  obtain ⟨V', g1, g2⟩ := mixed_l (T := T) hw (nw X) FU 0 0 V (by omega) (by rw [← FU_big]; omega) hm
  rw [Nat.zero_add] at g1
  exact ⟨V', g1, g2⟩
theorem lw29 {V : Vx} (hM : MoSh T V) {l : List Nat} (hl : l.length ≤ 10) {c : Nat} (hc : c < 100) (h1 : ∀ j, j < l.length → aI V 176 j = nI (ch l j) ∧ ch l j < 100) (v2 v3 : Int32) : ∀ (d n k : Nat) (b : Bool), k + d = l.length → d < n → Mo_leastWith_L29 T V 166 (nI c) v2 v3 (nI l.length) n (bi b) (nI k) = some (bi (b || !(alF (fun i => !(ch l i == c)) d k))) := by
  obtain ⟨-, -, -, -, -, -, -, -, -, ⟨e1, e2, e3⟩, -⟩ := hM
  intro d
  induction d with
  | zero =>
    intro n k b hk hn
    obtain ⟨n, rfl⟩ : ∃ m, n = m + 1 := ⟨n - 1, by omega⟩
    rw [Mo_leastWith_L29, if_le (by omega) (by omega), if_pos (by omega), alF, Bool.not_true, Bool.or_false]
  | succ d ih =>
    intro n k b hk hn
    obtain ⟨n, rfl⟩ : ∃ m, n = m + 1 := ⟨n - 1, by omega⟩
    have i1 := ih n (k + 1) true (by omega) (by omega)
    have i2 := ih n (k + 1) false (by omega) (by omega)
    obtain ⟨a1, a2⟩ := h1 k (by omega)
    rw [bi_t] at i1
    rw [bi_f] at i2
    rw [Mo_leastWith_L29, if_le (by omega) (by omega), if_neg (by omega), if_bi, e3, ck_s e1, bd_s, e2, gd_s (inb_n (by omega) (by omega)), cl_n (by omega), a1, if_eqn (by omega) (by omega), ad_1, i1, i2, alF]
    cases b with
    | true => rfl
    | false =>
      rw [if_neg (by decide)]
      by_cases e : ch l k = c
      · rw [if_pos e, e, beq_self_eq_true]; rfl
      · rw [if_neg e, beq_eq_false_iff_ne.mpr e]; rfl
theorem leastWith_l {c : Nat} (hc : c < 100) : ∀ (d n w k : Nat) (V : Vx), w + d = nw X → d < n → MwAt T V X lo m → ∃ V', Mo_leastWith_L4 T 166 (nI c) n V (nI k) (nI w) = some (nI (k + ctF (fun w => hs (lsW X lo (stM m) w) c) d w), V') ∧ FrN V V' := by
  intro d
  induction d with
  | zero =>
    intro n w k V hv hn hm
    obtain ⟨n, rfl⟩ : ∃ m, n = m + 1 := ⟨n - 1, by omega⟩
    have hh := hm
    obtain ⟨⟨-, ⟨c1, c2, c3⟩, -⟩, hX, ⟨-, hnw, -⟩, -⟩ := hh
    have n8 := hX.2.1
    refine ⟨V, ?_, FrN.rf⟩
    rw [Mo_leastWith_L4, c3, ck_s c1, bd_s, c2, gd_s (show inb 165 167 = true by decide), show (165 : Int32).toNatClampNeg = 165 from rfl, hnw, if_le (by omega) (by omega), if_pos (by omega)]
    rfl
  | succ d ih =>
    intro n w k V hv hn hm
    obtain ⟨n, rfl⟩ : ∃ m, n = m + 1 := ⟨n - 1, by omega⟩
    have hh := hm
    obtain ⟨⟨-, ⟨c1, c2, c3⟩, -⟩, hX, ⟨-, hnw, -⟩, -⟩ := hh
    have n8 := hX.2.1
    have n12 := hX.1
    obtain ⟨V1, p1, p2, p3⟩ := leasts_s (T := T) (w := w) (by omega) hm
    have hm1 := hm.frm p2
    have h29 : Mo_leastWith_L29 T V1 166 (nI c) (nI k) (nI w) (oI (lfW X lo (stM m) w)) FU 0 (nI 0) = some (bi (hs (lsW X lo (stM m) w) c)) := by
      cases hlf : lfW X lo (stM m) w with
      | none =>
        rw [lsW_none hlf, ← FU_big, Mo_leastWith_L29, if_pos (by decide)]
        rfl
      | some n2 =>
        obtain ⟨a1, a2, a3, a4, a5, -⟩ := lfW_s hX (by omega) hlf
        have hs1 := SgAt_ls hX (by omega) p3 hlf
        have := lw29 hm1.1 (l := lsW X lo (stM m) w) (by omega) hc (fun j hj => by
          obtain ⟨g1, g2⟩ := hs1 j hj
          rw [Nat.zero_add] at g1
          exact ⟨g1, by omega⟩) (nI k) (nI w) (lsW X lo (stM m) w).length FU 0 false (by omega) (by rw [← FU_big]; omega)
        rw [Bool.false_or] at this
        rw [show oI (some n2) = nI n2 from rfl, ← a3]
        exact this
    rw [Mo_leastWith_L4, c3, ck_s c1, bd_s, c2, gd_s (show inb 165 167 = true by decide), show (165 : Int32).toNatClampNeg = 165 from rfl, hnw, if_le (by omega) (by omega), if_neg (by omega), p1, bd2_s]
    rw [show Mo_leastWith_L29 T V1 166 (nI c) (nI k) (nI w) (oI (lfW X lo (stM m) w)) FU 0 0 = some (bi (hs (lsW X lo (stM m) w) c)) from h29, bd_s, if_bi, lt, lt, show nI k + 0 = nI k from nI_add k 0, ad_1, ad_1, ctF]
    cases hs (lsW X lo (stM m) w) c with
    | true =>
      obtain ⟨V', g1, g2⟩ := ih n (w + 1) (k + 1) V1 (by omega) (by omega) hm1
      refine ⟨V', ?_, p2.n.tr g2⟩
      rw [if_pos rfl, if_pos rfl, g1, Nat.add_assoc]
    | false =>
      obtain ⟨V', g1, g2⟩ := ih n (w + 1) k V1 (by omega) (by omega) hm1
      refine ⟨V', ?_, p2.n.tr g2⟩
      rw [if_neg (by decide), if_neg (by decide), g1, Nat.zero_add]
theorem leastWith_s {c : Nat} (hc : c < 100) {V : Vx} (hm : MwAt T V X lo m) : ∃ V', Mo_leastWith T V 166 (nI c) = some (nI (ctF (fun w => hs (lsW X lo (stM m) w) c) (nw X) 0), V') ∧ FrN V V' := by
  have n8 := hm.2.1.2.1
  obtain ⟨V', g1, g2⟩ := leastWith_l (T := T) hc (nw X) FU 0 0 V (by omega) (by rw [← FU_big]; omega) hm
  rw [Nat.zero_add] at g1
  exact ⟨V', g1, g2⟩
end MC
