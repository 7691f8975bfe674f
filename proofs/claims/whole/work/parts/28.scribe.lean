/-! ===== the least writings, as the scribe finds them ===== -/
def wS (F To ul : Nat → Nat) (o : Option Nat) (s : Nat) (a : Nat × Nat × Option Nat) : Nat × Nat × Option Nat := match o with
  | none => a
  | some q => if F q < 1000 then (if F q + 1 < a.1 ∨ (F q + 1 = a.1 ∧ a.2.1 < To q + ul s) then (F q + 1, To q + ul s, some s) else a) else a
def wF (nx : Nat → Option Nat) (ul F To : Nat → Nat) : Nat → Nat → Nat × Nat × Option Nat → Nat × Nat × Option Nat
  | 0, _, a => a
  | d + 1, s, a => wF nx ul F To d (s + 1) (wS F To ul (nx s) s a)
def ScSh (T : Tx) (V : Vx) : Prop := kd T 10 = 5 ∧ kd T 11 = 13 ∧ ln T 11 = 8 ∧ kd T 12 = 11 ∧ ln T 12 = 9 ∧ kd T 13 = 11 ∧ ln T 13 = 9 ∧ kd T 14 = 11 ∧ ln T 14 = 9 ∧ kd T 15 = 12 ∧ ln T 15 = 9 ∧ fR V 500 10 = some 11 ∧ fR V 501 10 = some 12 ∧ fR V 502 10 = some 13 ∧ fR V 503 10 = some 14 ∧ fR V 504 10 = some 15 ∧ ∀ w, w < 8 → aR V 11 w = some (16 + 2 * w) ∧ RowSh T V (16 + 2 * w) (17 + 2 * w) 8
theorem ScSh.fr {T : Tx} {V V' : Vx} {P : Nat → Prop} (h : ScSh T V) (hF : Fr P V V') : ScSh T V' := by
  obtain ⟨a1, a2, a3, a4, a5, a6, a7, a8, a9, a10, a11, b1, b2, b3, b4, b5, b6⟩ := h
  refine ⟨a1, a2, a3, a4, a5, a6, a7, a8, a9, a10, a11, by rw [hF.1]; exact b1, by rw [hF.1]; exact b2, by rw [hF.1]; exact b3, by rw [hF.1]; exact b4, by rw [hF.1]; exact b5, fun w hw => ?_⟩
  obtain ⟨c1, c2⟩ := b6 w hw
  exact ⟨by rw [hF.2.1]; exact c1, c2.fr hF⟩
/-- the three rows at a place -/
def At3 (V : Vx) (p : Nat) (a : Nat × Nat × Option Nat) : Prop := aI V 12 p = nI a.1 ∧ aI V 13 p = nI a.2.1 ∧ aI V 14 p = oI a.2.2
theorem At3.fr {V V' : Vx} {p : Nat} {a : Nat × Nat × Option Nat} (h : At3 V p a) (h1 : aI V' 12 p = aI V 12 p) (h2 : aI V' 13 p = aI V 13 p) (h3 : aI V' 14 p = aI V 14 p) : At3 V' p a := ⟨h1.trans h.1, h2.trans h.2.1, h3.trans h.2.2⟩
section SW
variable {T : Tx} {L : Nat} {X : Lex} {lo : Bool} {st : Nat → Bool} {w : Nat}
/-- writing the three rows at a place -/
theorem w3 {V : Vx} {p : Nat} (hS : ScSh T V) (hp : p ≤ 8) (x y z : Int32) {γ : Type} (k : Vx → Option γ) : (bd (ck T 11 (fR V 501 10)) (fun r86 => gd (inb (nI p) (ln T r86)) (lt (wI V r86 (nI p).toNatClampNeg x) (fun V91 => bd (ck T 11 (fR V91 502 10)) (fun r93 => gd (inb (nI p) (ln T r93)) (lt (wI V91 r93 (nI p).toNatClampNeg y) (fun V98 => bd (ck T 11 (fR V98 503 10)) (fun r100 => gd (inb (nI p) (ln T r100)) (lt (wI V98 r100 (nI p).toNatClampNeg z) k))))))))) = k (wI (wI (wI V 12 p x) 13 p y) 14 p z) := by
  obtain ⟨a1, a2, a3, a4, a5, a6, a7, a8, a9, a10, a11, b1, b2, b3, b4, b5, b6⟩ := hS
  rw [b2, ck_s a4, bd_s, a5, gd_s (inb_n (by omega) (by omega)), lt, cl_n (by omega), fR_wI, b3, ck_s a6, bd_s, a7, gd_s (inb_n (by omega) (by omega)), lt, fR_wI, fR_wI, b4, ck_s a8, bd_s, a9, gd_s (inb_n (by omega) (by omega)), lt]
theorem w3_at {V : Vx} {p : Nat} (a : Nat × Nat × Option Nat) : At3 (wI (wI (wI V 12 p (nI a.1)) 13 p (nI a.2.1)) 14 p (oI a.2.2)) p a := by
  refine ⟨?_, ?_, ?_⟩
  · rw [aI_wI, if_neg (by omega), aI_wI, if_neg (by omega), aI_wI, if_pos ⟨rfl, rfl⟩]
  · rw [aI_wI, if_neg (by omega), aI_wI, if_pos ⟨rfl, rfl⟩]
  · rw [aI_wI, if_pos ⟨rfl, rfl⟩]
theorem w3_ne {V : Vx} {p : Nat} (x y z : Int32) (b j : Nat) (h : j ≠ p) : aI (wI (wI (wI V 12 p x) 13 p y) 14 p z) b j = aI V b j := by
  rw [aI_wI, if_neg (fun q => h q.2), aI_wI, if_neg (fun q => h q.2), aI_wI, if_neg (fun q => h q.2)]
theorem w3_fr {V : Vx} {p : Nat} (x y z : Int32) : Fr (fun y => 12 ≤ y ∧ y ≤ 14) V (wI (wI (wI V 12 p x) 13 p y) 14 p z) := ((Fr.wI _ _ _ _ (by omega)).tr (Fr.wI _ _ _ _ (by omega))).tr (Fr.wI _ _ _ _ (by omega))
set_option maxHeartbeats 1000000 in
theorem weigh_l (hw : w < nw X) (hL40 : 38 ≤ L) {p : Nat} (hp : p ≤ (wl X w).length) {F To : Nat → Nat} (hb : ∀ q, p < q → q ≤ (wl X w).length → F q ≤ 1000 ∧ To q ≤ 100) : ∀ (d n s : Nat) (V : Vx) (a : Nat × Nat × Option Nat), s + d = ns X → d < n → LexAt T V L X lo st → ScSh T V → At3 V p a → a.1 ≤ 1000 → a.2.1 ≤ 200 → (∀ q, p < q → q ≤ (wl X w).length → aI V 12 q = nI (F q) ∧ aI V 13 q = nI (To q)) →
    ∃ V', Sc_weigh_L67 T 10 L (L + 39 + 3 * w) (nI p) 0 n V (nI s) = some V' ∧ Fr (fun y => 12 ≤ y ∧ y ≤ 14) V V' ∧ (∀ f, fI V' f = fI V f) ∧ At3 V' p (wF (fun s => pbS X lo st w s p) (fun s => (su X s).length) F To d s a) ∧ ∀ b j, j ≠ p → aI V' b j = aI V b j := by
  intro d
  induction d with
  | zero =>
    intro n s V a hsd hn hX hS hA h1 h2 hq
    obtain ⟨n, rfl⟩ : ∃ m, n = m + 1 := ⟨n - 1, by omega⟩
    have n12 := hX.2.1.1
    refine ⟨V, ?_, Fr.rf, fun _ => rfl, hA, fun _ _ _ => rfl⟩
    rw [Sc_weigh_L67.eq_def]
    dsimp only
    rw [hX.2.2.1, if_le (by omega) (by omega), if_pos (by omega)]
  | succ d ih =>
    intro n s V a hsd hn hX hS hA h1 h2 hq
    obtain ⟨n, rfl⟩ : ∃ m, n = m + 1 := ⟨n - 1, by omega⟩
    have n12 := hX.2.1.1
    have hs : s < ns X := by omega
    obtain ⟨k1, k2, k3, f1, f2, f3, f4⟩ := hX.sgn hs
    obtain ⟨w1, w2, w3'⟩ := hX.2.1.2.2.2.1 w hw
    obtain ⟨s1, s2, s3, s4, s5⟩ := hX.2.1.2.2.1 s hs
    have hS' := hS
    obtain ⟨a1, a2, a3, a4, a5, a6, a7, a8, a9, a10, a11, b1, b2, b3, b4, b5, b6⟩ := hS
    have skip := ih n (s + 1) V a (by omega) (by omega) hX hS' hA h1 h2 hq
    rw [Sc_weigh_L67.eq_def]
    dsimp only
    rw [hX.2.2.1, if_le (by omega) (by omega), if_neg (by omega), if_pos rfl, signAt_s hX hs, bd_s]
    dsimp only
    rw [ck_s k1, bd_s, placeBehind_s hX hw hs hp, bd_s, wF]
    try dsimp only
    cases hpb : pbS X lo st w s p with
    | none =>
      rw [show oI none = (-4 : Int32) from rfl, if_pos (by decide), nI_1]
      exact skip
    | some q =>
      obtain ⟨q1, q2⟩ := pbS_le hpb
      have hsu : 1 ≤ (su X s).length := by
        apply s4
        intro e
        unfold pbS at hpb
        rw [if_pos (by simp [e])] at hpb
        cases hpb
      obtain ⟨g1, g2⟩ := hq q (by omega) q2
      obtain ⟨g3, g4⟩ := hb q (by omega) q2
      rw [show oI (some q) = nI q from rfl, if_neg (n_lt (by omega)), show (8 : Int32) = nI 8 from rfl, if_ltn (by omega) (by omega), if_neg (by omega), b2, ck_s a4, bd_s, a5, gd_s (inb_n (by omega) (by omega)), cl_n (by omega), g1, show (1000 : Int32) = nI 1000 from rfl, if_ltn (by omega) (by omega)]
      unfold wS
      dsimp only
      by_cases e1 : F q < 1000
      · rw [if_pos e1, if_pos e1, bd_s, a5, gd_s (inb_n (by omega) (by omega)), lt, b3, ck_s a6, bd_s, a7, gd_s (inb_n (by omega) (by omega)), k2, ck_s k3, bd_s, Le_size_s f4, bd_s, lt, bd_s, a5, gd_s (inb_n (by omega) (by omega)), g1, g2, nI_1 (F q), nI_add, cl_n (show p < 2 ^ 31 by omega), hA.1, if_ltn (by omega) (by omega)]
        have wr3 := ih n (s + 1) (wI (wI (wI V 12 p (nI (F q + 1))) 13 p (nI (To q + (su X s).length))) 14 p (nI s)) (F q + 1, To q + (su X s).length, some s) (by omega) (by omega) (hX.fr (w3_fr _ _ _) (fun y y1 y2 => by omega)) (hS'.fr (w3_fr _ _ _)) (w3_at (F q + 1, To q + (su X s).length, some s)) (show F q + 1 ≤ 1000 by omega) (show To q + (su X s).length ≤ 200 by omega) (fun q' q1 q2 => by rw [w3_ne _ _ _ _ _ (by omega), w3_ne _ _ _ _ _ (by omega)]; exact hq q' q1 q2)
        have wr3' : ∃ V', Sc_weigh_L67 T 10 L (L + 39 + 3 * w) (nI p) 0 n (wI (wI (wI V 12 p (nI (F q + 1))) 13 p (nI (To q + (su X s).length))) 14 p (nI s)) (nI s + 1) = some V' ∧ Fr (fun y => 12 ≤ y ∧ y ≤ 14) V V' ∧ (∀ f, fI V' f = fI V f) ∧ At3 V' p (wF (fun s => pbS X lo st w s p) (fun s => (su X s).length) F To d (s + 1) (F q + 1, To q + (su X s).length, some s)) ∧ ∀ b j, j ≠ p → aI V' b j = aI V b j := by
          obtain ⟨V', z1, z2, z3, z4, z5⟩ := wr3
          rw [nI_1]
          exact ⟨V', z1, (w3_fr _ _ _).tr z2, fun f => by rw [z3]; rfl, z4, fun b j hj => by rw [z5 b j hj, w3_ne _ _ _ _ _ hj]⟩
        by_cases e2 : F q + 1 < a.1
        · rw [if_pos e2, if_pos (Or.inl e2)]
          have h3 := w3 hS' (show p ≤ 8 by omega) (nI (F q + 1)) (nI (To q + (su X s).length)) (nI s) (fun V105 => Sc_weigh_L67 T 10 L (L + 39 + 3 * w) (nI p) 0 n V105 (nI s + 1))
          rw [cl_n (show p < 2 ^ 31 by omega), b2, ck_s a4] at h3
          rw [h3]
          exact wr3'
        · rw [if_neg e2, bd_s, a5, gd_s (inb_n (by omega) (by omega)), hA.1, if_eqn (by omega) (by omega)]
          by_cases e3 : F q + 1 = a.1
          · rw [if_pos e3, bd_s, a7, gd_s (inb_n (by omega) (by omega)), hA.2.1, if_le (by omega) (by omega)]
            by_cases e4 : To q + (su X s).length ≤ a.2.1
            · rw [if_pos e4, if_neg (by omega), nI_1]
              exact skip
            · rw [if_neg e4, if_pos (Or.inr ⟨e3, by omega⟩)]
              have h3 := w3 hS' (show p ≤ 8 by omega) (nI (F q + 1)) (nI (To q + (su X s).length)) (nI s) (fun V105 => Sc_weigh_L67 T 10 L (L + 39 + 3 * w) (nI p) 0 n V105 (nI s + 1))
              rw [cl_n (show p < 2 ^ 31 by omega), b2, ck_s a4] at h3
              rw [h3]
              exact wr3'
          · rw [if_neg e3, if_neg (by omega), nI_1]
            exact skip
      · rw [if_neg e1, if_neg e1, nI_1]
        exact skip
end SW
