/-! ===== the Model: readings of the inscription ===== -/
section MK
variable {T : Tx} {X : Lex} {lo : Bool} {m : Nat}
theorem bits_l (V : Vx) {b : Nat} (hb : b < 2 ^ 31) : ∀ (d n c k : Nat), k + d = 16 → d < n → Mo_bits_L4 T V (nI b) n (nI c) (nI k) = some (nI (c + ctF (fun i => b.testBit i) d k)) := by
  intro d
  induction d with
  | zero =>
    intro n c k hk hn
    obtain ⟨n, rfl⟩ : ∃ m, n = m + 1 := ⟨n - 1, by omega⟩
    rw [Mo_bits_L4, show (16 : Int32) = nI 16 from rfl, if_le (by omega) (by omega), if_pos (by omega)]
    rfl
  | succ d ih =>
    intro n c k hk hn
    obtain ⟨n, rfl⟩ : ∃ m, n = m + 1 := ⟨n - 1, by omega⟩
    have h1 : nI c + bi (b.testBit k) = nI (c + if b.testBit k = true then 1 else 0) := by
      cases b.testBit k
      · exact nI_add c 0
      · exact nI_add c 1
    rw [Mo_bits_L4, show (16 : Int32) = nI 16 from rfl, if_le (by omega) (by omega), if_neg (by omega), bit_n hb (by omega), h1, lt, ad_1, ih n _ (k + 1) (by omega) (by omega), ctF, Nat.add_assoc]
theorem bits_s (V : Vx) {b : Nat} (hb : b < 2 ^ 31) : Mo_bits T V (nI b) = some (nI (pp b)) := by
  have := bits_l (T := T) V hb 16 FU 0 0 (by omega) (by rw [← FU_big]; omega)
  rw [Nat.zero_add] at this
  rw [Mo_bits]
  exact this
theorem pp_0 : pp 0 = 0 := by decide
/-- the Model holds an inscription -/
def CvAt (V : Vx) (X : Lex) (l : List Nat) : Prop := l.length ≤ 16 ∧ aI V 170 2 = nI l.length ∧ ∀ k, k < l.length → aI V 170 (3 + k) = nI (ch l k) ∧ ch l k < ns X
theorem CvAt.fr {V V' : Vx} {l : List Nat} (h : CvAt V X l) (ha : ∀ i, aI V' 170 i = aI V 170 i) : CvAt V' X l := ⟨h.1, by rw [ha]; exact h.2.1, fun k hk => by rw [ha]; exact h.2.2 k hk⟩
theorem FrN.a170 {V V' : Vx} (h : FrN V V') (i : Nat) : aI V' 170 i = aI V 170 i := h.1.2.2.2.1 170 i (by omega)
theorem ch_dt (l : List Nat) (i k j : Nat) (hj : j < k) : ch ((l.drop i).take k) j = ch l (i + j) := by
  unfold ch
  rw [List.getD_eq_getElem?_getD, List.getD_eq_getElem?_getD, List.getElem?_take, if_pos hj, List.getElem?_drop]
theorem CvAt.sg {V : Vx} {l : List Nat} (h : CvAt V X l) {i k : Nat} (hk : i + k ≤ l.length) : SgAt V 170 (3 + i) X ((l.drop i).take k) ∧ ((l.drop i).take k).length = k := by
  have hl : ((l.drop i).take k).length = k := by
    rw [List.length_take, List.length_drop]; omega
  refine ⟨fun j hj => ?_, hl⟩
  rw [hl] at hj
  rw [ch_dt l i k j hj, show 3 + i + j = 3 + (i + j) by omega]
  exact h.2.2 (i + j) (by omega)
theorem creads_s {V : Vx} (hm : MwAt T V X lo m) {l : List Nat} (h : CvAt V X l) {i k : Nat} (hk : i + k ≤ l.length) (h1 : 1 ≤ k) (h9 : k ≤ 9) : Mo_reads T V 166 170 (nI (3 + i)) (nI k) = some (nI (rsF X lo (stM m) l i k)) := by
  obtain ⟨g1, g2⟩ := h.sg hk
  have hSh := hm.1
  obtain ⟨-, -, -, ⟨c1, c2, c3⟩, -⟩ := hSh
  have hl := h.1
  have := reads_s hm g1 (by rw [c2, g2]; omega) (by rw [c2]; omega) (by omega) (fun z => by rw [z] at g2; simp at g2; omega)
  rw [g2] at this
  exact this
theorem ix10 (i k : Nat) : (10 * nI i) + nI k = nI (10 * i + k) := by
  rw [show (10 : Int32) = nI 10 from rfl, nI_mul, nI_add]
set_option maxHeartbeats 2000000 in
theorem reck47 {l : List Nat} {i : Nat} {W F : Nat → Nat} (hi : i < l.length) : ∀ (d n k : Nat) (V : Vx) (a : Nat × Nat × Nat), k + d = min 9 (l.length - i) + 1 → d < n → 1 ≤ k → MwAt T V X lo m → CvAt V X l → aL V 180 i = lN a.1 → aI V 179 i = nI a.2.1 → a.2.1 ≤ 1000 → (∀ j, i < j → j ≤ l.length → aL V 180 j = lN (W j) ∧ aI V 179 j = nI (F j) ∧ F j ≤ 1000) →
    ∃ V', Mo_reckons_L47 T 166 (nI l.length) (nI i) n V (nI k) = some V' ∧ FrN V V' ∧ aL V' 180 i = lN (jF (rsF X lo (stM m) l i) W F i d k a).1 ∧ aI V' 179 i = nI (jF (rsF X lo (stM m) l i) W F i d k a).2.1 ∧ (∀ j, j ≠ i → aL V' 180 j = aL V 180 j ∧ aI V' 179 j = aI V 179 j) ∧ (∀ k', k ≤ k' → k' < k + d → aI V' 181 (10 * i + k') = nI (rsF X lo (stM m) l i k')) ∧ (∀ j, (j < 10 * i + k ∨ 10 * i + 10 ≤ j) → aI V' 181 j = aI V 181 j) := by
  intro d
  induction d with
  | zero =>
    intro n k V a hk hn h1 hm hC ha hb hc hj
    obtain ⟨n, rfl⟩ : ∃ m, n = m + 1 := ⟨n - 1, by omega⟩
    have hN := hC.1
    refine ⟨V, ?_, FrN.rf, ha, hb, fun _ _ => ⟨rfl, rfl⟩, fun k' q1 q2 => by omega, fun _ _ => rfl⟩
    rw [Mo_reckons_L47, show (10 : Int32) = nI 10 from rfl, if_le (by omega) (by omega)]
    by_cases e : 10 ≤ k
    · rw [if_pos e]
    · rw [if_neg e, nI_add, if_ltn (by omega) (by omega), if_pos (by omega)]
  | succ d ih =>
    intro n k V a hk hn h1 hm hC ha hb hc hj
    obtain ⟨n, rfl⟩ : ∃ m, n = m + 1 := ⟨n - 1, by omega⟩
    have hN := hC.1
    have n8 := hm.2.1.2.1
    have hSh := hm.1
    obtain ⟨-, -, -, ⟨c1, c2, c3⟩, -, -, -, -, -, -, -, -, ⟨d1, d2, d3⟩, ⟨e1, e2, e3⟩, ⟨f1, f2, f3⟩⟩ := hSh
    obtain ⟨r, hr⟩ : ∃ r, r = rsF X lo (stM m) l i k := ⟨_, rfl⟩
    have hr256 : r < 256 := by rw [hr]; exact rd_lt X lo (stM m) _ n8
    have hpp : pp r ≤ 16 := ctF_le _ _ _
    obtain ⟨j1, j2, j3⟩ := hj (i + k) (by omega) (by omega)
    obtain ⟨nf, hnf⟩ : ∃ nf, nf = if r = 0 then a.2.1 else if F (i + k) + 1 < a.2.1 then F (i + k) + 1 else a.2.1 := ⟨_, rfl⟩
    obtain ⟨nw', hnw⟩ : ∃ v, v = a.1 + pp r * W (i + k) := ⟨_, rfl⟩
    obtain ⟨nc, hnc⟩ : ∃ v, v = if r = 0 then a.2.2 else if F (i + k) + 1 < a.2.1 then k else a.2.2 := ⟨_, rfl⟩
    obtain ⟨V1, hV1⟩ : ∃ V1, V1 = wI (wL (wI V 181 (10 * i + k) (nI r)) 180 i (lN nw')) 179 i (nI nf) := ⟨_, rfl⟩
    have hF1 : FrN V V1 := by rw [hV1]; exact ((FrN.wI V (by decide)).tr (FrN.wL _ (by decide))).tr (FrN.wI _ (by decide))
    have L180 : ∀ j, aL V1 180 j = if j = i then lN nw' else aL V 180 j := by
      intro j
      rw [hV1, aL_wI, aL_wL, aL_wI]
      by_cases e : j = i
      · rw [if_pos ⟨rfl, e⟩, if_pos e]
      · rw [if_neg (fun z => e z.2), if_neg e]
    have I179 : ∀ j, aI V1 179 j = if j = i then nI nf else aI V 179 j := by
      intro j
      rw [hV1, aI_wI]
      by_cases e : j = i
      · rw [if_pos ⟨rfl, e⟩, if_pos e]
      · rw [if_neg (fun z => e z.2), if_neg e, aI_wL, aI_wI, if_neg (fun z => absurd z.1 (by decide))]
    have I181 : ∀ j, aI V1 181 j = if j = 10 * i + k then nI r else aI V 181 j := by
      intro j
      rw [hV1, aI_wI, if_neg (fun z => absurd z.1 (by decide)), aI_wL, aI_wI]
      by_cases e : j = 10 * i + k
      · rw [if_pos ⟨rfl, e⟩, if_pos e]
      · rw [if_neg (fun z => e z.2), if_neg e]
    have hnf1000 : nf ≤ 1000 := by
      rw [hnf]
      by_cases e : r = 0
      · rw [if_pos e]; exact hc
      · rw [if_neg e]
        by_cases e2 : F (i + k) + 1 < a.2.1
        · rw [if_pos e2]; omega
        · rw [if_neg e2]; exact hc
    obtain ⟨V', p1, p2, p3, p4, p5, p6, p7⟩ := ih n (k + 1) V1 (nw', nf, nc) (by omega) (by omega) (by omega) (hm.frn hF1) (hC.fr hF1.a170) (by rw [L180, if_pos rfl]) (by rw [I179, if_pos rfl]) hnf1000 (fun j j1 j2 => by rw [L180, if_neg (by omega), I179, if_neg (by omega)]; exact hj j j1 j2)
    have hjF : jF (rsF X lo (stM m) l i) W F i (d + 1) k a = jF (rsF X lo (stM m) l i) W F i d (k + 1) (nw', nf, nc) := by
      rw [jF, ← hr]
      congr 1
      rw [hnw, hnf, hnc]
      by_cases e : r = 0
      · rw [if_pos e, if_pos e, if_pos e, e, pp_0, Nat.zero_mul, Nat.add_zero]
      · rw [if_neg e, if_neg e, if_neg e]
    rw [hjF]
    refine ⟨V', ?_, hF1.tr p2, p3, p4, fun j hj => by rw [(p5 j hj).1, (p5 j hj).2, L180, I179, if_neg hj, if_neg hj]; exact ⟨rfl, rfl⟩, fun k' q1 q2 => ?_, fun j hj => by rw [p7 j (by omega), I181, if_neg (by omega)]⟩
    · have hrd := creads_s hm hC (i := i) (k := k) (by omega) h1 (by omega)
      rw [← hr] at hrd
      have hcell : ∀ v, (wL (wI V 181 (10 * i + k) (nI r)) 180 i v) = (wL (wI V 181 (10 * i + k) (nI r)) 180 i v) := fun _ => rfl
      have A179 : ∀ j v, aI (wL (wI V 181 (10 * i + k) (nI r)) 180 i v) 179 j = aI V 179 j := fun j v => by rw [aI_wL, aI_wI, if_neg (fun z => absurd z.1 (by decide))]
      rw [Mo_reckons_L47, show (10 : Int32) = nI 10 from rfl, if_le (by omega) (by omega), if_neg (by omega), nI_add, if_ltn (by omega) (by omega), if_neg (by omega), c3, ck_s c1, bd_s, show (3 : Int32) = nI 3 from rfl, nI_add, hrd, bd_s, f3, ck_s f1, bd_s, show nI 10 = (10 : Int32) from rfl, ix10, f2, gd_s (inb_n (by omega) (by omega)), lt, cl_n (by omega), fR_wI, e3, ck_s e1, bd_s, e2, gd_s (inb_n (by omega) (by omega)), bd_s, e2, gd_s (inb_n (by omega) (by omega)), bits_s _ (by omega), bd_s, gd_s (inb_n (by omega) (by omega)), lt, cl_n (by omega), cl_n (by omega), aL_wI, aL_wI, ha, j1, nI_l (by omega), lN_mul, lN_add, Nat.mul_comm (W (i + k)), ← hnw, fR_wL, fR_wI, d3, ck_s d1, bd_s, show (0 : Int32) = nI 0 from rfl, if_le (by omega) (by omega), ad_1]
      by_cases e : r ≤ 0
      · rw [if_pos (show r = 0 by omega)] at hnf
        rw [if_pos e, bd_s, d2, gd_s (inb_n (by omega) (by omega)), gd_s (inb_n (by omega) (by omega)), lt, A179, hb, ← hnf, ← hV1]
        exact p1
      · rw [if_neg (show ¬ r = 0 by omega)] at hnf
        rw [if_neg e, bd_s, d2, gd_s (inb_n (by omega) (by omega)), bd_s, d2, gd_s (inb_n (by omega) (by omega)), A179, A179, hb, j2, ad_1, if_le (by omega) (by omega)]
        by_cases e4 : a.2.1 ≤ F (i + k) + 1
        · rw [if_neg (by omega)] at hnf
          rw [if_pos e4, bd_s, d2, gd_s (inb_n (by omega) (by omega)), gd_s (inb_n (by omega) (by omega)), lt, A179, hb, ← hnf, ← hV1]
          exact p1
        · rw [if_pos (by omega)] at hnf
          rw [if_neg e4, bd_s, d2, gd_s (inb_n (by omega) (by omega)), gd_s (inb_n (by omega) (by omega)), lt, A179, j2, ad_1, ← hnf, ← hV1]
          exact p1
    · by_cases ek : k' = k
      · rw [ek, p7 (10 * i + k) (by omega), I181, if_pos rfl, hr]
      · exact p6 k' (by omega) (by omega)
/-- the Model's tables of the readings -/
def RkAt (V : Vx) (rs : Nat → Nat → Nat) (N i : Nat) : Prop := (∀ j, i ≤ j → j ≤ N → aL V 180 j = lN (tW rs N j) ∧ aI V 179 j = nI (tF rs N j)) ∧ ∀ j k, i ≤ j → 1 ≤ k → k ≤ 9 → j + k ≤ N → aI V 181 (10 * j + k) = nI (rs j k)
theorem reck25 {l : List Nat} : ∀ (d n : Nat) (V : Vx), d ≤ l.length → d < n → MwAt T V X lo m → CvAt V X l → RkAt V (rsF X lo (stM m) l) l.length d →
    ∃ V', Mo_reckons_L25 T 166 (nI l.length) n V (nI d - 1) = some V' ∧ FrN V V' ∧ RkAt V' (rsF X lo (stM m) l) l.length 0 := by
  intro d
  induction d with
  | zero =>
    intro n V hd hn hm hC hR
    obtain ⟨n, rfl⟩ : ∃ m, n = m + 1 := ⟨n - 1, by omega⟩
    refine ⟨V, ?_, FrN.rf, hR⟩
    rw [Mo_reckons_L25, if_pos (by decide)]
  | succ d ih =>
    intro n V hd hn hm hC hR
    obtain ⟨n, rfl⟩ : ∃ m, n = m + 1 := ⟨n - 1, by omega⟩
    have hN := hC.1
    have hSh := hm.1
    obtain ⟨-, -, -, -, -, -, -, -, -, -, -, -, ⟨d1, d2, d3⟩, ⟨e1, e2, e3⟩, -⟩ := hSh
    obtain ⟨V1, hV1⟩ : ∃ V1, V1 = wL (wI V 179 d (nI 1000)) 180 d 0 := ⟨_, rfl⟩
    have hF1 : FrN V V1 := by rw [hV1]; exact (FrN.wI V (by decide)).tr (FrN.wL _ (by decide))
    have L180 : ∀ j, j ≠ d → aL V1 180 j = aL V 180 j := fun j hj => by rw [hV1, aL_wL, if_neg (fun z => hj z.2), aL_wI]
    have I179 : ∀ j, j ≠ d → aI V1 179 j = aI V 179 j := fun j hj => by rw [hV1, aI_wL, aI_wI, if_neg (fun z => hj z.2)]
    have I181 : ∀ j, aI V1 181 j = aI V 181 j := fun j => by rw [hV1, aI_wL, aI_wI, if_neg (fun z => absurd z.1 (by decide))]
    obtain ⟨V2, p1, p2, p3, p4, p5, p6, p7⟩ := reck47 (T := T) (X := X) (lo := lo) (m := m) (l := l) (i := d) (W := tW (rsF X lo (stM m) l) l.length) (F := tF (rsF X lo (stM m) l) l.length) (by omega) (min 9 (l.length - d)) FU 1 V1 (0, 1000, 0) (by omega) (by rw [← FU_big]; omega) (Nat.le_refl 1) (hm.frn hF1) (hC.fr hF1.a170) (by rw [hV1, aL_wL, if_pos ⟨rfl, rfl⟩]; rfl) (by rw [hV1, aI_wL, aI_wI, if_pos ⟨rfl, rfl⟩]) (Nat.le_refl _) (fun j j1 j2 => by
      rw [L180 j (by omega), I179 j (by omega)]
      obtain ⟨g1, g2⟩ := hR.1 j (by omega) j2
      exact ⟨g1, g2, tF_le _ _ _⟩)
    rw [tab_eq (rsF X lo (stM m) l) l.length d (by omega)] at p3 p4
    obtain ⟨V3, q1, q2, q3⟩ := ih n V2 (by omega) (by omega) ((hm.frn hF1).frn p2) ((hC.fr hF1.a170).fr p2.a170) ⟨fun j j1 j2 => by
      by_cases e : j = d
      · rw [e]; exact ⟨p3, p4⟩
      · rw [(p5 j e).1, (p5 j e).2, L180 j e, I179 j e]
        exact hR.1 j (by omega) j2, fun j k j1 k1 k9 jk => by
      by_cases e : j = d
      · rw [e]; exact p6 k k1 (by omega)
      · rw [p7 _ (by omega), I181]
        exact hR.2 j k (by omega) k1 k9 jk⟩
    refine ⟨V3, ?_, (hF1.tr p2).tr q2, q3⟩
    rw [Mo_reckons_L25, nI_pred, if_neg (n_lt (by omega)), d3, ck_s d1, bd_s, d2, gd_s (inb_n (by omega) (by omega)), lt, cl_n (by omega), fR_wI, e3, ck_s e1, bd_s, e2, gd_s (inb_n (by omega) (by omega)), lt, show (1000 : Int32) = nI 1000 from rfl, ← hV1, show (1 : Int32) = nI 1 from rfl, p1, bd_s, show nI d + -nI 1 = nI d - 1 from (Int32.sub_eq_add_neg _ _).symm]
    exact q1
theorem reckons_s {V : Vx} (hm : MwAt T V X lo m) {l : List Nat} (hC : CvAt V X l) : ∃ V', Mo_reckons T V 166 = some V' ∧ FrN V V' ∧ RkAt V' (rsF X lo (stM m) l) l.length 0 := by
  have hN := hC.1
  have hSh := hm.1
  obtain ⟨-, -, -, ⟨c1, c2, c3⟩, -, -, -, -, -, -, -, -, ⟨d1, d2, d3⟩, ⟨e1, e2, e3⟩, -⟩ := hSh
  obtain ⟨V1, hV1⟩ : ∃ V1, V1 = wL (wI V 179 l.length 0) 180 l.length 1 := ⟨_, rfl⟩
  have hF1 : FrN V V1 := by rw [hV1]; exact (FrN.wI V (by decide)).tr (FrN.wL _ (by decide))
  obtain ⟨t1, t2⟩ := tab_N (rsF X lo (stM m) l) l.length
  obtain ⟨V2, p1, p2, p3⟩ := reck25 (T := T) (X := X) (lo := lo) (m := m) (l := l) l.length FU V1 (Nat.le_refl _) (by rw [← FU_big]; omega) (hm.frn hF1) (hC.fr hF1.a170) ⟨fun j j1 j2 => by
    rw [show j = l.length by omega, t1, t2, hV1, aL_wL, if_pos ⟨rfl, rfl⟩, aI_wL, aI_wI, if_pos ⟨rfl, rfl⟩]
    exact ⟨rfl, rfl⟩, fun j k j1 k1 k9 jk => by omega⟩
  refine ⟨V2, ?_, hF1.tr p2, p3⟩
  rw [Mo_reckons, c3, ck_s c1, bd_s, c2, gd_s (show inb 2 19 = true by decide), lt, show (2 : Int32).toNatClampNeg = 2 from rfl, hC.2.1, d3, ck_s d1, bd_s, d2, gd_s (inb_n (by omega) (by omega)), lt, cl_n (by omega), fR_wI, e3, ck_s e1, bd_s, e2, gd_s (inb_n (by omega) (by omega)), lt, lt, ← hV1]
  exact p1
theorem rowFrom_l {V : Vx} (hM : MoSh T V) {rs : Nat → Nat → Nat} {N i : Nat} (hN : N ≤ 16) (hi : i < N) (hrs : ∀ k, rs i k < 256) (hR : RkAt V rs N 0) (hf : tF rs N i < 1000) : ∀ (d n k : Nat), k + d = tC rs N i → d < n → 1 ≤ k → Mo_rowFrom_L2 T V 166 (nI i) n (nI k) = some (nI (tC rs N i)) := by
  obtain ⟨s1, s2, s3, s4, s5, s6⟩ := tC_spec rs N i hi hf
  obtain ⟨-, -, -, -, -, -, -, -, -, -, -, -, ⟨d1, d2, d3⟩, -, ⟨f1, f2, f3⟩⟩ := hM
  obtain ⟨r1, r2⟩ := hR.1 i (Nat.zero_le _) (by omega)
  intro d
  induction d with
  | zero =>
    intro n k hk hn h1
    obtain ⟨n, rfl⟩ : ∃ m, n = m + 1 := ⟨n - 1, by omega⟩
    have hk' : k = tC rs N i := by omega
    have h3 := hrs k
    have hle := tF_le rs N (i + k)
    rw [← hk'] at s4 s5
    rw [Mo_rowFrom_L2, f3, ck_s f1, bd_s, ix10, f2, gd_s (inb_n (by omega) (by omega)), cl_n (by omega), hR.2 i k (Nat.zero_le _) h1 (by omega) (by omega), show (0 : Int32) = nI 0 from rfl, if_eqn (by omega) (by omega), if_neg s4, d3, ck_s d1, bd_s, nI_add, d2, gd_s (inb_n (by omega) (by omega)), bd_s, d2, gd_s (inb_n (by omega) (by omega)), cl_n (by omega), cl_n (by omega), (hR.1 (i + k) (Nat.zero_le _) (by omega)).2, r2, ad_1, if_eqn (by omega) (by omega), if_pos s5, hk']
  | succ d ih =>
    intro n k hk hn h1
    obtain ⟨n, rfl⟩ : ∃ m, n = m + 1 := ⟨n - 1, by omega⟩
    have h3 := hrs k
    have hle := tF_le rs N (i + k)
    rw [Mo_rowFrom_L2, f3, ck_s f1, bd_s, ix10, f2, gd_s (inb_n (by omega) (by omega)), cl_n (by omega), hR.2 i k (Nat.zero_le _) h1 (by omega) (by omega), show (0 : Int32) = nI 0 from rfl, if_eqn (by omega) (by omega), ad_1, ih n (k + 1) (by omega) (by omega) (by omega)]
    by_cases e : rs i k = 0
    · rw [if_pos e]
    · rw [if_neg e, d3, ck_s d1, bd_s, nI_add, d2, gd_s (inb_n (by omega) (by omega)), bd_s, d2, gd_s (inb_n (by omega) (by omega)), cl_n (by omega), cl_n (by omega), (hR.1 (i + k) (Nat.zero_le _) (by omega)).2, r2, ad_1, if_eqn (by omega) (by omega), if_neg (s6 k h1 (by omega) e)]
theorem rowFrom_s {V : Vx} (hM : MoSh T V) {rs : Nat → Nat → Nat} {N i : Nat} (hN : N ≤ 16) (hi : i < N) (hrs : ∀ k, rs i k < 256) (hR : RkAt V rs N 0) (hf : tF rs N i < 1000) : Mo_rowFrom T V 166 (nI i) = some (nI (tC rs N i)) := by
  obtain ⟨s1, s2, s3, s4, s5, s6⟩ := tC_spec rs N i hi hf
  rw [Mo_rowFrom]
  exact rowFrom_l hM hN hi hrs hR hf (tC rs N i - 1) FU 1 (by omega) (by rw [← FU_big]; omega) (Nat.le_refl 1)
theorem begins_l {V : Vx} (hM : MoSh T V) {rs : Nat → Nat → Nat} {N : Nat} (hN : N ≤ 16) (hrs : ∀ i k, rs i k < 256) (hR : RkAt V rs N 0) (hf : tF rs N 0 < 1000) {k : Nat} (hk : k < tF rs N 0) : ∀ (d n j : Nat), j + d = k → d < n → Mo_begins_L33 T V 166 (nI k) n (nI (bg rs N j)) (nI j) = some (nI (bg rs N k), V) := by
  intro d
  induction d with
  | zero =>
    intro n j hj hn
    obtain ⟨n, rfl⟩ : ∃ m, n = m + 1 := ⟨n - 1, by omega⟩
    rw [Mo_begins_L33, if_le (by omega) (by omega), if_pos (by omega), show j = k by omega]
  | succ d ih =>
    intro n j hj hn
    obtain ⟨n, rfl⟩ : ∃ m, n = m + 1 := ⟨n - 1, by omega⟩
    obtain ⟨b1, b2, b3⟩ := bg_spec rs N hf j (by omega)
    rw [Mo_begins_L33, if_le (by omega) (by omega), if_neg (by omega), rowFrom_s hM hN (b3 (by omega)) (hrs _) hR (by omega), bd_s, lt, nI_add, ad_1]
    exact ih n (j + 1) (by omega) (by omega)
theorem lowbit_l (V : Vx) {b : Nat} (hb : b < 256) {w : Nat} : ∀ (d n k : Nat), k + d = 8 → d < n → fsF (fun i => b.testBit i) d k = some w → Mo_reading_L70 T V (nI b) n (nI k) = some (nI w, V) := by
  intro d
  induction d with
  | zero => intro n k hk hn h; cases h
  | succ d ih =>
    intro n k hk hn h
    obtain ⟨n, rfl⟩ : ∃ m, n = m + 1 := ⟨n - 1, by omega⟩
    rw [fsF] at h
    rw [Mo_reading_L70, bit_n (by omega) (by omega), if_bi, ad_1]
    cases e : b.testBit k with
    | true =>
      rw [e, if_pos rfl] at h
      cases h
      rw [if_pos rfl]
    | false =>
      rw [e, if_neg (by decide)] at h
      rw [if_neg (by decide)]
      exact ih n (k + 1) (by omega) (by omega) h
end MK
