/-! ===== the reading's laws ===== -/
theorem jF_congr {rs W F W' F' : Nat → Nat} {i : Nat} : ∀ (d k : Nat) (a : Nat × Nat × Nat), (∀ m, k ≤ m → m < k + d → W (i + m) = W' (i + m) ∧ F (i + m) = F' (i + m)) → jF rs W F i d k a = jF rs W' F' i d k a := by
  intro d
  induction d with
  | zero => intro k a _; rfl
  | succ d ih =>
    intro k a h
    obtain ⟨h1, h2⟩ := h k (by omega) (by omega)
    rw [jF, jF, h1, h2, ih (k + 1) _ (fun m m1 m2 => h m (by omega) (by omega))]
theorem tab_st (rs : Nat → Nat → Nat) (N n j : Nat) (h : N - n ≤ j) (hn : n < N) : (tab rs N (n + 1)).1 j = (tab rs N n).1 j ∧ (tab rs N (n + 1)).2.1 j = (tab rs N n).2.1 j ∧ (tab rs N (n + 1)).2.2 j = (tab rs N n).2.2 j := by
  have e : ¬ j = N - (n + 1) := by omega
  rw [tab]
  dsimp only
  unfold va_up
  rw [if_neg e, if_neg e, if_neg e]
  exact ⟨rfl, rfl, rfl⟩
theorem tab_st2 (rs : Nat → Nat → Nat) (N n j : Nat) (h : N - n ≤ j) : ∀ d, n + d ≤ N → (tab rs N (n + d)).1 j = (tab rs N n).1 j ∧ (tab rs N (n + d)).2.1 j = (tab rs N n).2.1 j ∧ (tab rs N (n + d)).2.2 j = (tab rs N n).2.2 j := by
  intro d
  induction d with
  | zero => intro _; exact ⟨rfl, rfl, rfl⟩
  | succ d ih =>
    intro hd
    obtain ⟨h1, h2, h3⟩ := ih (by omega)
    obtain ⟨g1, g2, g3⟩ := tab_st rs N (n + d) j (by omega) (by omega)
    exact ⟨g1.trans h1, g2.trans h2, g3.trans h3⟩
def tW (rs : Nat → Nat → Nat) (N : Nat) : Nat → Nat := (tab rs N N).1
def tF (rs : Nat → Nat → Nat) (N : Nat) : Nat → Nat := (tab rs N N).2.1
def tC (rs : Nat → Nat → Nat) (N : Nat) : Nat → Nat := (tab rs N N).2.2
theorem tab_N (rs : Nat → Nat → Nat) (N : Nat) : tW rs N N = 1 ∧ tF rs N N = 0 := by
  obtain ⟨h1, h2, -⟩ := tab_st2 rs N 0 N (by omega) N (by omega)
  rw [Nat.zero_add] at h1 h2
  refine ⟨h1.trans ?_, h2.trans ?_⟩
  · show (if N = N then 1 else 0) = 1
    rw [if_pos rfl]
  · show (if N = N then 0 else 1000) = 0
    rw [if_pos rfl]
theorem tab_eq (rs : Nat → Nat → Nat) (N i : Nat) (h : i < N) : jF (rs i) (tW rs N) (tF rs N) i (min 9 (N - i)) 1 (0, 1000, 0) = (tW rs N i, tF rs N i, tC rs N i) := by
  obtain ⟨n, hn⟩ : ∃ n, N - i = n + 1 := ⟨N - i - 1, by omega⟩
  have hi : i = N - (n + 1) := by omega
  have hst : ∀ j, N - (n + 1) ≤ j → tW rs N j = (tab rs N (n + 1)).1 j ∧ tF rs N j = (tab rs N (n + 1)).2.1 j ∧ tC rs N j = (tab rs N (n + 1)).2.2 j := by
    intro j hj
    have := tab_st2 rs N (n + 1) j hj (N - (n + 1)) (by omega)
    rw [show n + 1 + (N - (n + 1)) = N by omega] at this
    exact this
  have hst2 : ∀ j, N - n ≤ j → tW rs N j = (tab rs N n).1 j ∧ tF rs N j = (tab rs N n).2.1 j := by
    intro j hj
    have := tab_st2 rs N n j hj (N - n) (by omega)
    rw [show n + (N - n) = N by omega] at this
    exact ⟨this.1, this.2.1⟩
  rw [hn, jF_congr (W' := (tab rs N n).1) (F' := (tab rs N n).2.1) _ _ _ (fun m m1 m2 => hst2 (i + m) (by omega))]
  obtain ⟨h1, h2, h3⟩ := hst i (by omega)
  rw [h1, h2, h3, tab]
  dsimp only
  unfold va_up
  rw [← hi, if_pos rfl, if_pos rfl, if_pos rfl]
theorem jF_spec (rs W F : Nat → Nat) (i : Nat) : ∀ (d k : Nat) (a : Nat × Nat × Nat), (jF rs W F i d k a).2.1 ≤ a.2.1 ∧ ((jF rs W F i d k a).2.1 = a.2.1 → (jF rs W F i d k a).2.2 = a.2.2) ∧ ((jF rs W F i d k a).2.1 < a.2.1 → k ≤ (jF rs W F i d k a).2.2 ∧ (jF rs W F i d k a).2.2 < k + d ∧ rs (jF rs W F i d k a).2.2 ≠ 0 ∧ F (i + (jF rs W F i d k a).2.2) + 1 = (jF rs W F i d k a).2.1 ∧ ∀ m, k ≤ m → m < (jF rs W F i d k a).2.2 → rs m ≠ 0 → (jF rs W F i d k a).2.1 < F (i + m) + 1) := by
  intro d
  induction d with
  | zero => intro k a; exact ⟨Nat.le_refl _, fun _ => rfl, fun h => absurd h (Nat.lt_irrefl _)⟩
  | succ d ih =>
    intro k a
    rw [jF]
    by_cases e : rs k = 0
    · rw [if_pos e]
      obtain ⟨h1, h2, h3⟩ := ih (k + 1) a
      refine ⟨h1, h2, fun h => ?_⟩
      obtain ⟨g1, g2, g3, g4, g5⟩ := h3 h
      refine ⟨by omega, by omega, g3, g4, fun m m1 m2 m3 => ?_⟩
      by_cases em : m = k
      · rw [em] at m3; exact absurd e m3
      · exact g5 m (by omega) m2 m3
    · rw [if_neg e]
      by_cases e2 : F (i + k) + 1 < a.2.1
      · rw [if_pos e2, if_pos e2]
        obtain ⟨h1, h2, h3⟩ := ih (k + 1) (a.1 + pp (rs k) * W (i + k), F (i + k) + 1, k)
        dsimp only at h1 h2 h3
        refine ⟨by omega, fun h => by omega, fun h => ?_⟩
        by_cases e3 : (jF rs W F i d (k + 1) (a.1 + pp (rs k) * W (i + k), F (i + k) + 1, k)).2.1 = F (i + k) + 1
        · have h4 := h2 e3
          rw [h4, e3]
          exact ⟨by omega, by omega, e, rfl, fun m m1 m2 => absurd m2 (by omega)⟩
        · obtain ⟨g1, g2, g3, g4, g5⟩ := h3 (by omega)
          refine ⟨by omega, by omega, g3, g4, fun m m1 m2 m3 => ?_⟩
          by_cases em : m = k
          · rw [em]; omega
          · exact g5 m (by omega) m2 m3
      · rw [if_neg e2, if_neg e2]
        obtain ⟨h1, h2, h3⟩ := ih (k + 1) (a.1 + pp (rs k) * W (i + k), a.2.1, a.2.2)
        dsimp only at h1 h2 h3
        refine ⟨h1, h2, fun h => ?_⟩
        obtain ⟨g1, g2, g3, g4, g5⟩ := h3 h
        refine ⟨by omega, by omega, g3, g4, fun m m1 m2 m3 => ?_⟩
        by_cases em : m = k
        · rw [em]; omega
        · exact g5 m (by omega) m2 m3
/-- the first row of the reading from i on -/
theorem tC_spec (rs : Nat → Nat → Nat) (N i : Nat) (h : i < N) (hf : tF rs N i < 1000) : 1 ≤ tC rs N i ∧ tC rs N i ≤ 9 ∧ i + tC rs N i ≤ N ∧ rs i (tC rs N i) ≠ 0 ∧ tF rs N (i + tC rs N i) + 1 = tF rs N i ∧ ∀ m, 1 ≤ m → m < tC rs N i → rs i m ≠ 0 → tF rs N (i + m) + 1 ≠ tF rs N i := by
  have h1 := jF_spec (rs i) (tW rs N) (tF rs N) i (min 9 (N - i)) 1 (0, 1000, 0)
  rw [tab_eq rs N i h] at h1
  obtain ⟨-, -, h3⟩ := h1
  obtain ⟨g1, g2, g3, g4, g5⟩ := h3 hf
  dsimp only at g1 g2 g3 g4 g5
  exact ⟨g1, by omega, by omega, g3, g4, fun m m1 m2 m3 => by have := g5 m m1 m2 m3; omega⟩
theorem tF_le (rs : Nat → Nat → Nat) (N i : Nat) : tF rs N i ≤ 1000 := tab_le rs N N i
/-- where the k-th row of the reading begins -/
def bg (rs : Nat → Nat → Nat) (N : Nat) : Nat → Nat
  | 0 => 0
  | k + 1 => bg rs N k + tC rs N (bg rs N k)
theorem bg_spec (rs : Nat → Nat → Nat) (N : Nat) (hf : tF rs N 0 < 1000) : ∀ k, k ≤ tF rs N 0 → bg rs N k ≤ N ∧ tF rs N (bg rs N k) + k = tF rs N 0 ∧ (k < tF rs N 0 → bg rs N k < N) := by
  intro k
  induction k with
  | zero =>
    intro _
    refine ⟨Nat.zero_le _, rfl, fun h => ?_⟩
    rcases Nat.eq_zero_or_pos N with q | q
    · subst q
      have := (tab_N rs 0).2
      omega
    · exact q
  | succ k ih =>
    intro hk
    obtain ⟨h1, h2, h3⟩ := ih (by omega)
    have h4 := h3 (by omega)
    obtain ⟨c1, c2, c3, c4, c5, -⟩ := tC_spec rs N (bg rs N k) h4 (by omega)
    refine ⟨c3, ?_, fun h => ?_⟩
    · show tF rs N (bg rs N k + tC rs N (bg rs N k)) + (k + 1) = _
      omega
    · show bg rs N k + tC rs N (bg rs N k) < N
      rcases Nat.lt_or_ge (bg rs N k + tC rs N (bg rs N k)) N with q | q
      · exact q
      · have e : bg rs N k + tC rs N (bg rs N k) = N := by omega
        rw [e, (tab_N rs N).2] at c5
        omega
section PL
variable {T : Tx} {V : Vx} {rs : Nat → Nat → Nat} {N : Nat}
theorem waysInAll_s (hS : RdSh T V) (hP : PlOk V rs N N) : Re_waysInAll T V 32 = some (lN (tW rs N 0)) := by
  obtain ⟨a1, a2, a3, a4, a5, a6, a7, a8, a9, a10, b1, b2, b3, b4, b5⟩ := hS
  rw [Re_waysInAll, b2, ck_s a3, bd_s, a4, gd_s (show inb 0 17 = true from rfl), show (0 : Int32).toNatClampNeg = 0 from rfl, (hP.1 0 (by omega) (Nat.zero_le _)).1]
  rfl
theorem fewestWords_s (hS : RdSh T V) (hP : PlOk V rs N N) : Re_fewestWords T V 32 = some (nI (tF rs N 0)) := by
  obtain ⟨a1, a2, a3, a4, a5, a6, a7, a8, a9, a10, b1, b2, b3, b4, b5⟩ := hS
  rw [Re_fewestWords, b3, ck_s a5, bd_s, a6, gd_s (show inb 0 17 = true from rfl), show (0 : Int32).toNatClampNeg = 0 from rfl, (hP.1 0 (by omega) (Nat.zero_le _)).2]
  rfl
theorem startOf_l (hS : RdSh T V) (hP : PlOk V rs N N) (hN : N ≤ 16) (hf : tF rs N 0 < 1000) (k : Nat) (hk : k < tF rs N 0) : ∀ (d n j : Nat), j + d = k → d < n → Re_startOf_L33 T V 32 (nI k) n (nI (bg rs N j)) (nI j) = some (nI (bg rs N k)) := by
  obtain ⟨a1, a2, a3, a4, a5, a6, a7, a8, a9, a10, b1, b2, b3, b4, b5⟩ := hS
  intro d
  induction d with
  | zero =>
    intro n j hjd hn
    obtain ⟨n, rfl⟩ : ∃ m, n = m + 1 := ⟨n - 1, by omega⟩
    have e : j = k := by omega
    subst e
    rw [Re_startOf_L33, if_le (by omega) (by omega), if_pos (Nat.le_refl _)]
  | succ d ih =>
    intro n j hjd hn
    obtain ⟨n, rfl⟩ : ∃ m, n = m + 1 := ⟨n - 1, by omega⟩
    obtain ⟨g1, g2, g3⟩ := bg_spec rs N hf j (by omega)
    have g4 := g3 (by omega)
    have hc := (hP.2.1 (bg rs N j) (by omega) g4 (show tF rs N (bg rs N j) < 1000 by omega)).1
    obtain ⟨c1, c2, c3, -⟩ := tC_spec rs N (bg rs N j) g4 (by omega)
    rw [Re_startOf_L33, if_le (by omega) (by omega), if_neg (by omega), if_neg (n_lt (by omega)), show (16 : Int32) = nI 16 from rfl, if_ltn (by omega) (by omega), if_neg (by omega), b4, ck_s a7, bd_s, a8, gd_s (inb_n (by omega) (by omega)), lt, cl_n (by omega), hc, nI_add, nI_1]
    exact ih n (j + 1) (by omega) (by omega)
theorem startOf_s (hS : RdSh T V) (hP : PlOk V rs N N) (hN : N ≤ 16) (hf : tF rs N 0 < 1000) (k : Nat) (hk : k < tF rs N 0) : Re_startOf T V 32 (nI k) = some (nI (bg rs N k)) := by
  have hS' := hS
  obtain ⟨a1, a2, a3, a4, a5, a6, a7, a8, a9, a10, b1, b2, b3, b4, b5⟩ := hS
  have h0 : aI V 35 0 = nI (tF rs N 0) := (hP.1 0 (by omega) (Nat.zero_le _)).2
  rw [Re_startOf, b3, ck_s a5, bd_s, a6, gd_s (show inb 0 17 = true from rfl), show (0 : Int32).toNatClampNeg = 0 from rfl, h0, show (1000 : Int32) = nI 1000 from rfl, if_le (by omega) (by omega), if_neg (by omega), if_neg (n_lt (by omega)), bd_s, a6, gd_s (show inb 0 17 = true from rfl), h0, if_ltn (by omega) (by omega), if_pos hk]
  have := startOf_l hS' hP hN hf k hk k FU 0 (by omega) (by rw [← FU_big]; omega)
  exact this
theorem startOf_n (hS : RdSh T V) (hP : PlOk V rs N N) (x : Int32) (hx : ¬ tF rs N 0 < 1000 ∨ x < 0 ∨ nI (tF rs N 0) ≤ x) : Re_startOf T V 32 x = some (-4) := by
  obtain ⟨a1, a2, a3, a4, a5, a6, a7, a8, a9, a10, b1, b2, b3, b4, b5⟩ := hS
  have h0 : aI V 35 0 = nI (tF rs N 0) := (hP.1 0 (by omega) (Nat.zero_le _)).2
  have hle := tF_le rs N 0
  rw [Re_startOf, b3, ck_s a5, bd_s, a6, gd_s (show inb 0 17 = true from rfl), show (0 : Int32).toNatClampNeg = 0 from rfl, h0, show (1000 : Int32) = nI 1000 from rfl, if_le (by omega) (by omega)]
  by_cases e : 1000 ≤ tF rs N 0
  · rw [if_pos e]
  · rw [if_neg e]
    by_cases e2 : x < 0
    · rw [if_pos e2]
    · rw [if_neg e2, bd_s, a6, gd_s (show inb 0 17 = true from rfl), h0, if_neg]
      rcases hx with q | q | q
      · omega
      · exact absurd q e2
      · exact Int32.not_lt.mpr q
theorem plannedWord_s (hS : RdSh T V) (hP : PlOk V rs N N) (hN : N ≤ 16) (hf : tF rs N 0 < 1000) (k : Nat) (hk : k < tF rs N 0) : Re_plannedWord T V 32 (nI k) = some (oI (lb (rs (bg rs N k) (tC rs N (bg rs N k))))) ∧ Re_plannedCut T V 32 (nI k) = some (nI (tC rs N (bg rs N k))) := by
  obtain ⟨g1, g2, g3⟩ := bg_spec rs N hf k (by omega)
  have g4 := g3 (by omega)
  have hc := hP.2.1 (bg rs N k) (by omega) g4 (show tF rs N (bg rs N k) < 1000 by omega)
  have hs := startOf_s hS hP hN hf k hk
  obtain ⟨a1, a2, a3, a4, a5, a6, a7, a8, a9, a10, b1, b2, b3, b4, b5⟩ := hS
  constructor
  · rw [Re_plannedWord, hs, bd_s, if_neg (n_lt (by omega)), show (16 : Int32) = nI 16 from rfl, if_ltn (by omega) (by omega), if_neg (by omega), b5, ck_s a9, bd_s, a10, gd_s (inb_n (by omega) (by omega)), cl_n (by omega), hc.2]
    rfl
  · rw [Re_plannedCut, hs, bd_s, if_neg (n_lt (by omega)), show (16 : Int32) = nI 16 from rfl, if_ltn (by omega) (by omega), if_neg (by omega), b4, ck_s a7, bd_s, a8, gd_s (inb_n (by omega) (by omega)), cl_n (by omega), hc.1]
    rfl
theorem plannedWord_n (hS : RdSh T V) (hP : PlOk V rs N N) (x : Int32) (hx : ¬ tF rs N 0 < 1000 ∨ x < 0 ∨ nI (tF rs N 0) ≤ x) : Re_plannedWord T V 32 x = some (-4) ∧ Re_plannedCut T V 32 x = some (-4) := by
  have hs := startOf_n hS hP x hx
  constructor
  · rw [Re_plannedWord, hs, bd_s, if_pos (by decide)]
  · rw [Re_plannedCut, hs, bd_s, if_pos (by decide)]
end PL
