/-! ===== items of both, side by side ===== -/
theorem isA_ne {c : Nat} (h : isA c = true) : c ≠ 59 ∧ c < 128 := by
  unfold isA at h
  have := Bool.and_eq_true_iff.mp h
  have a := of_decide_eq_true this.1
  have b := of_decide_eq_true this.2
  exact ⟨by omega, by omega⟩
theorem okl_gl {t : List Nat} {a e most : Nat} (h59 : ch t e = 59) (h : okl t a e most = true) : a < e ∧ glF t most a = e - a := by
  unfold okl at h
  obtain ⟨h1, h2⟩ := Bool.and_eq_true_iff.mp h
  obtain ⟨h3, h4⟩ := Bool.and_eq_true_iff.mp h1
  have h3 := of_decide_eq_true h3
  have h4 := of_decide_eq_true h4
  refine ⟨h3, glF_eq t most a (e - a) h4 (fun i hi => (alF_iff _ _ _).mp h2 (a + i) (by omega) (by omega)) ?_⟩
  rw [show a + (e - a) = e by omega, h59]
  rfl
theorem gl_okl {t : List Nat} {a most : Nat} (h : 0 < glF t most a) : okl t a (a + glF t most a) most = true := by
  obtain ⟨g1, g2, -⟩ := glF_spec t most a
  unfold okl
  rw [show a + glF t most a - a = glF t most a by omega, decide_eq_true (show a < a + glF t most a by omega), decide_eq_true g1, Bool.true_and, Bool.true_and, alF_iff]
  intro i h1 h2
  have := g2 (i - a) (by omega)
  rw [show a + (i - a) = i by omega] at this
  exact this
theorem dg_ne {t : List Nat} {p hi d : Nat} (h : dg t p hi = some d) (hh : hi < 10) : ch t p ≠ 59 := by
  unfold dg at h
  by_cases e : 48 ≤ ch t p ∧ ch t p ≤ 48 + hi
  · omega
  · rw [if_neg e] at h; cases h
theorem itm_mitm {X : Lex} {lo : Bool} {t : List Nat} {s e : Nat} {Y : Lex × Bool} (h59 : ch t e = 59) (h : itm X lo t s e = some Y) : mitm X lo t s = some (Y, e) := by
  unfold itm at h
  unfold mitm
  by_cases e1 : ch t s = 107
  · rw [if_pos e1] at h ⊢
    cases hd : dg t (s + 1) 1 with
    | none => rw [hd] at h; cases h
    | some d =>
      rw [hd] at h
      dsimp only at h ⊢
      by_cases e2 : e = s + 2
      · rw [if_pos e2] at h; cases h; rw [e2]
      · rw [if_neg e2] at h; cases h
  rw [if_neg e1] at h ⊢
  by_cases e2 : ch t s = 109
  · rw [if_pos e2] at h ⊢
    by_cases h12 : ns X < 12
    · rw [if_pos h12] at h ⊢
      cases hd : dg t (s + 1) 5 with
      | none => rw [hd] at h; cases h
      | some d =>
        rw [hd] at h
        dsimp only at h ⊢
        by_cases e2 : e = s + 2
        · rw [if_pos e2] at h; cases h; rw [e2]
        · rw [if_neg e2] at h; cases h
    · rw [if_neg h12] at h; cases h
  rw [if_neg e2] at h ⊢
  by_cases e3 : ch t s = 112
  · rw [if_pos e3] at h ⊢
    by_cases h12 : ns X < 12
    · rw [if_pos h12] at h ⊢
      cases hd : dg t (s + 1) 5 with
      | none => rw [hd] at h; cases h
      | some d =>
        rw [hd] at h
        dsimp only at h ⊢
        by_cases e4 : ch t (s + 2) = 44
        · rw [if_pos e4] at h ⊢
          by_cases e5 : okl t (s + 3) e 4 = true
          · rw [if_pos e5] at h
            obtain ⟨o1, o2⟩ := okl_gl h59 e5
            cases h
            rw [o2, if_pos (by omega), show s + 3 + (e - (s + 3)) = e by omega]
          · rw [if_neg e5] at h; cases h
        · rw [if_neg e4] at h; cases h
    · rw [if_neg h12] at h; cases h
  rw [if_neg e3] at h ⊢
  by_cases e4 : ch t s = 115
  · rw [if_pos e4] at h ⊢
    by_cases h12 : ns X < 12
    · rw [if_pos h12] at h ⊢
      by_cases e5 : okl t (s + 1) e 4 = true
      · rw [if_pos e5] at h
        obtain ⟨o1, o2⟩ := okl_gl h59 e5
        cases h
        rw [o2, if_pos (by omega), show s + 1 + (e - (s + 1)) = e by omega]
      · rw [if_neg e5] at h; cases h
    · rw [if_neg h12] at h; cases h
  rw [if_neg e4] at h ⊢
  by_cases e6 : ch t s = 119
  · rw [if_pos e6] at h ⊢
    by_cases h8 : nw X < 8
    · rw [if_pos h8] at h ⊢
      cases hd : dg t (s + 1) 5 with
      | none => rw [hd] at h; cases h
      | some d =>
        rw [hd] at h
        dsimp only at h ⊢
        by_cases e4 : ch t (s + 2) = 44
        · rw [if_pos e4] at h ⊢
          by_cases e5 : okl t (s + 3) e 8 = true
          · rw [if_pos e5] at h
            obtain ⟨o1, o2⟩ := okl_gl h59 e5
            by_cases e7 : fsF (ow X d (sgF t (e - (s + 3)) (s + 3))) (nw X) 0 = none
            · rw [if_pos e7] at h
              cases h
              rw [o2, if_pos (by omega), if_pos e7, show s + 3 + (e - (s + 3)) = e by omega]
            · rw [if_neg e7] at h; cases h
          · rw [if_neg e5] at h; cases h
        · rw [if_neg e4] at h; cases h
    · rw [if_neg h8] at h; cases h
  rw [if_neg e6] at h
  cases h
theorem nol {t : List Nat} {s a n : Nat} (h0 : ∀ i, s ≤ i → i < a → ch t i ≠ 59) (h1 : ∀ i, i < n → isA (ch t (a + i)) = true) : ∀ i, s ≤ i → i < a + n → ch t i ≠ 59 := by
  intro i h2 h3
  by_cases e : i < a
  · exact h0 i h2 e
  · have := h1 (i - a) (by omega)
    rw [show a + (i - a) = i by omega] at this
    exact (isA_ne this).1
theorem mitm_itm {X : Lex} {lo : Bool} {t : List Nat} {s p : Nat} {Y : Lex × Bool} (h : mitm X lo t s = some (Y, p)) : itm X lo t s p = some Y ∧ s < p ∧ p ≤ s + 12 ∧ ∀ i, s ≤ i → i < p → ch t i ≠ 59 := by
  unfold itm
  unfold mitm at h
  by_cases e1 : ch t s = 107
  · rw [if_pos e1] at h ⊢
    cases hd : dg t (s + 1) 1 with
    | none => rw [hd] at h; cases h
    | some d =>
      rw [hd] at h
      dsimp only at h ⊢
      cases h
      refine ⟨if_pos rfl, by omega, by omega, fun i h1 h2 => ?_⟩
      have := dg_ne hd (by omega)
      have hi : i = s ∨ i = s + 1 := by omega
      rcases hi with rfl | rfl
      · omega
      · exact this
  rw [if_neg e1] at h ⊢
  by_cases e2 : ch t s = 109
  · rw [if_pos e2] at h ⊢
    by_cases h12 : ns X < 12
    · rw [if_pos h12] at h ⊢
      cases hd : dg t (s + 1) 5 with
      | none => rw [hd] at h; cases h
      | some d =>
        rw [hd] at h
        dsimp only at h ⊢
        cases h
        refine ⟨if_pos rfl, by omega, by omega, fun i h1 h2 => ?_⟩
        have := dg_ne hd (by omega)
        have hi : i = s ∨ i = s + 1 := by omega
        rcases hi with rfl | rfl
        · omega
        · exact this
    · rw [if_neg h12] at h; cases h
  rw [if_neg e2] at h ⊢
  by_cases e3 : ch t s = 112
  · rw [if_pos e3] at h ⊢
    by_cases h12 : ns X < 12
    · rw [if_pos h12] at h ⊢
      cases hd : dg t (s + 1) 5 with
      | none => rw [hd] at h; cases h
      | some d =>
        rw [hd] at h
        dsimp only at h ⊢
        by_cases e4 : ch t (s + 2) = 44
        · rw [if_pos e4] at h ⊢
          by_cases e5 : 0 < glF t 4 (s + 3)
          · rw [if_pos e5] at h
            cases h
            have hd2 := dg_ne hd (by omega)
            obtain ⟨g1, g2, -⟩ := glF_spec t 4 (s + 3)
            rw [if_pos (gl_okl e5), show s + 3 + glF t 4 (s + 3) - (s + 3) = glF t 4 (s + 3) by omega]
            refine ⟨rfl, by omega, by omega, nol (fun i h1 h2 => ?_) g2⟩
            have hi : i = s ∨ i = s + 1 ∨ i = s + 2 := by omega
            rcases hi with rfl | rfl | rfl
            · omega
            · exact hd2
            · omega
          · rw [if_neg e5] at h; cases h
        · rw [if_neg e4] at h; cases h
    · rw [if_neg h12] at h; cases h
  rw [if_neg e3] at h ⊢
  by_cases e4 : ch t s = 115
  · rw [if_pos e4] at h ⊢
    by_cases h12 : ns X < 12
    · rw [if_pos h12] at h ⊢
      by_cases e5 : 0 < glF t 4 (s + 1)
      · rw [if_pos e5] at h
        cases h
        obtain ⟨g1, g2, -⟩ := glF_spec t 4 (s + 1)
        rw [if_pos (gl_okl e5), show s + 1 + glF t 4 (s + 1) - (s + 1) = glF t 4 (s + 1) by omega]
        refine ⟨rfl, by omega, by omega, nol (fun i h1 h2 => ?_) g2⟩
        have hi : i = s := by omega
        rw [hi]; omega
      · rw [if_neg e5] at h; cases h
    · rw [if_neg h12] at h; cases h
  rw [if_neg e4] at h ⊢
  by_cases e6 : ch t s = 119
  · rw [if_pos e6] at h ⊢
    by_cases h8 : nw X < 8
    · rw [if_pos h8] at h ⊢
      cases hd : dg t (s + 1) 5 with
      | none => rw [hd] at h; cases h
      | some d =>
        rw [hd] at h
        dsimp only at h ⊢
        by_cases e4 : ch t (s + 2) = 44
        · rw [if_pos e4] at h ⊢
          by_cases e5 : 0 < glF t 8 (s + 3)
          · rw [if_pos e5] at h
            by_cases e7 : fsF (ow X d (sgF t (glF t 8 (s + 3)) (s + 3))) (nw X) 0 = none
            · rw [if_pos e7] at h
              cases h
              have hd2 := dg_ne hd (by omega)
              obtain ⟨g1, g2, -⟩ := glF_spec t 8 (s + 3)
              rw [if_pos (gl_okl e5), show s + 3 + glF t 8 (s + 3) - (s + 3) = glF t 8 (s + 3) by omega, if_pos e7]
              refine ⟨rfl, by omega, by omega, nol (fun i h1 h2 => ?_) g2⟩
              have hi : i = s ∨ i = s + 1 ∨ i = s + 2 := by omega
              rcases hi with rfl | rfl | rfl
              · omega
              · exact hd2
              · omega
            · rw [if_neg e7] at h; cases h
          · rw [if_neg e5] at h; cases h
        · rw [if_neg e4] at h; cases h
    · rw [if_neg h8] at h; cases h
  rw [if_neg e6] at h
  cases h
/-- a lexicon as it may be, with its letters -/
def OkX (X : Lex) : Prop := WFX X ∧ (∀ w, w < nw X → ∀ x ∈ wl X w, x < 128) ∧ ∀ s, s < ns X → ∀ x ∈ su X s, x < 128
theorem OkX.addS {X : Lex} (h : OkX X) {a : Sg} (ha : okS a) (h12 : ns X < 12) (hl : ∀ x ∈ a.2.2, x < 128) : OkX (addS X a) := by
  refine ⟨h.1.addS ha h12, h.2.1, fun s hs => ?_⟩
  rw [ns_addS] at hs
  rw [su_addS]
  by_cases e : s < ns X
  · rw [if_pos e]; exact h.2.2 s e
  · rw [if_neg e, if_pos (by omega)]; exact hl
theorem itm_ok {X : Lex} (hX : OkX X) {lo : Bool} {t : List Nat} {s e : Nat} {Y : Lex × Bool} (h : itm X lo t s e = some Y) : OkX Y.1 := by
  unfold itm at h
  by_cases e1 : ch t s = 107
  · rw [if_pos e1] at h
    cases hd : dg t (s + 1) 1 with
    | none => rw [hd] at h; cases h
    | some d =>
      rw [hd] at h
      dsimp only at h
      by_cases e2 : e = s + 2
      · rw [if_pos e2] at h; cases h; exact hX
      · rw [if_neg e2] at h; cases h
  rw [if_neg e1] at h
  by_cases e2 : ch t s = 109
  · rw [if_pos e2] at h
    by_cases h12 : ns X < 12
    · rw [if_pos h12] at h
      cases hd : dg t (s + 1) 5 with
      | none => rw [hd] at h; cases h
      | some d =>
        rw [hd] at h
        dsimp only at h
        by_cases e2 : e = s + 2
        · rw [if_pos e2] at h; cases h
          exact hX.addS (okS_mk (Nat.le_refl 2) (dg_le hd) (fun _ => rfl) (fun z => absurd rfl z) (by decide)) h12 (fun x hx => by cases hx)
        · rw [if_neg e2] at h; cases h
    · rw [if_neg h12] at h; cases h
  rw [if_neg e2] at h
  by_cases e3 : ch t s = 112
  · rw [if_pos e3] at h
    by_cases h12 : ns X < 12
    · rw [if_pos h12] at h
      cases hd : dg t (s + 1) 5 with
      | none => rw [hd] at h; cases h
      | some d =>
        rw [hd] at h
        dsimp only at h
        by_cases e4 : ch t (s + 2) = 44
        · rw [if_pos e4] at h
          by_cases e5 : okl t (s + 3) e 4 = true
          · rw [if_pos e5] at h
            obtain ⟨o1, o2, o3, o4⟩ := okl_len e5
            cases h
            exact hX.addS (okS_mk (by decide) (dg_le hd) (fun z => absurd z (by decide)) (fun _ => by rw [o3]; omega) (by rw [o3]; omega)) h12 o4
          · rw [if_neg e5] at h; cases h
        · rw [if_neg e4] at h; cases h
    · rw [if_neg h12] at h; cases h
  rw [if_neg e3] at h
  by_cases e4 : ch t s = 115
  · rw [if_pos e4] at h
    by_cases h12 : ns X < 12
    · rw [if_pos h12] at h
      by_cases e5 : okl t (s + 1) e 4 = true
      · rw [if_pos e5] at h
        obtain ⟨o1, o2, o3, o4⟩ := okl_len e5
        cases h
        exact hX.addS (okS_mk (by decide) (by decide) (fun z => absurd z (by decide)) (fun _ => by rw [o3]; omega) (by rw [o3]; omega)) h12 o4
      · rw [if_neg e5] at h; cases h
    · rw [if_neg h12] at h; cases h
  rw [if_neg e4] at h
  by_cases e6 : ch t s = 119
  · rw [if_pos e6] at h
    by_cases h8 : nw X < 8
    · rw [if_pos h8] at h
      cases hd : dg t (s + 1) 5 with
      | none => rw [hd] at h; cases h
      | some d =>
        rw [hd] at h
        dsimp only at h
        by_cases e4 : ch t (s + 2) = 44
        · rw [if_pos e4] at h
          by_cases e5 : okl t (s + 3) e 8 = true
          · rw [if_pos e5] at h
            obtain ⟨o1, o2, o3, o4⟩ := okl_len e5
            by_cases e7 : fsF (ow X d (sgF t (e - (s + 3)) (s + 3))) (nw X) 0 = none
            · rw [if_pos e7] at h
              cases h
              refine ⟨hX.1.addW h8 (dg_le hd) (by show 1 ≤ (sgF t (e - (s + 3)) (s + 3)).length; omega) (by show (sgF t (e - (s + 3)) (s + 3)).length ≤ 8; omega) (fun w hw => fsF_no _ _ _ e7 w (Nat.zero_le w) (by omega)), fun w hw => ?_, hX.2.2⟩
              rw [nw_addW] at hw
              rw [wl_addW]
              by_cases e : w < nw X
              · rw [if_pos e]; exact hX.2.1 w e
              · rw [if_neg e, if_pos (by omega)]; exact o4
            · rw [if_neg e7] at h; cases h
          · rw [if_neg e5] at h; cases h
        · rw [if_neg e4] at h; cases h
    · rw [if_neg h8] at h; cases h
  rw [if_neg e6] at h
  cases h
theorem OkX.nil : OkX ([], []) := ⟨⟨by decide, by decide, fun s hs => absurd hs (Nat.not_lt_zero s), fun w hw => absurd hw (Nat.not_lt_zero w), fun w v hw => absurd hw (Nat.not_lt_zero w)⟩, fun w hw => absurd hw (Nat.not_lt_zero w), fun s hs => absurd hs (Nat.not_lt_zero s)⟩
theorem pfF_ok (t : List Nat) : ∀ (n : Nat) (X : Lex × Bool) (s : Nat), OkX X.1 → OkX (pfF t n X s).2.1 := by
  intro n
  induction n with
  | zero => intro X s h; exact h
  | succ n ih =>
    intro X s h
    rw [pfF]
    by_cases e : t.length ≤ s
    · rw [if_pos e]; exact h
    · rw [if_neg e]
      cases hf : fdF t 59 (t.length - s) s with
      | none => exact h
      | some e1 =>
        dsimp only
        cases hi : itm X.1 X.2 t s e1 with
        | none => exact h
        | some Y => exact ih Y (e1 + 1) (itm_ok h hi)
section MFL
variable {T : Tx} {t : List Nat}
theorem mfault_l : ∀ (n k s : Nat) (V : Vx) (X : Lex × Bool), t.length + 1 ≤ n + s → n ≤ k → s ≤ t.length → 0 < n → MoSh T V → TxM V t → OkX X.1 → ToldAt V 169 X.1 → aI V 169 166 = bi X.2 → fI V 902 166 = nI s →
    ∃ V', Mo_fault_L27 T 166 k V = some (oI (pfF t n X s).1, V') ∧ FrF V V' ∧ ((pfF t n X s).1 = none → ToldAt V' 169 (pfF t n X s).2.1 ∧ aI V' 169 166 = bi (pfF t n X s).2.2) := by
  intro n
  induction n with
  | zero => intro k s V X h1 h2 h3 h0; omega
  | succ n ih =>
    intro k s V X h1 h2 h3 h0 hM ht hX hT hlo hs
    obtain ⟨k, rfl⟩ : ∃ m, k = m + 1 := ⟨k - 1, by omega⟩
    have h200 := ht.1
    rw [Mo_fault_L27, ht.2.1, hs, if_le (by omega) (by omega), pfF]
    by_cases e : t.length ≤ s
    · rw [if_pos e, if_pos e]
      exact ⟨V, rfl, FrF.rf, fun _ => ⟨hT, hlo⟩⟩
    · rw [if_neg e, if_neg e, lt, lt, nI_1]
      obtain ⟨V1, hV1⟩ : ∃ V1, V1 = sI V 902 166 (nI (s + 1)) := ⟨_, rfl⟩
      have hF1 : FrF V V1 := by rw [hV1]; exact FrF.sI V
      have b0 : fI V1 902 166 = nI (s + 1) := by rw [hV1, fI_sI, if_pos ⟨rfl, rfl⟩]
      have b1 : ∀ i, aI V1 169 i = aI V 169 i := fun i => by rw [hV1, aI_sI]
      have hM1 := hM.fr hF1.1
      have ht1 := ht.fr hF1
      have hT1 : ToldAt V1 169 X.1 := by
        rw [hV1]; exact hT
      have hlo1 : aI V1 169 166 = bi X.2 := by rw [b1]; exact hlo
      obtain ⟨⟨a1, a2, a3⟩, -⟩ := hM1
      rw [← hV1, a3, ck_s a1, bd_s, a2, gd_s (inb_n (by omega) (by omega)), cl_n (by omega), ht1.2.2.1 s (by omega)]
      obtain ⟨V2, p1, p2, p3⟩ := mitem_s (hM.fr hF1.1) ht1 ⟨hX.1, hT1, hlo1⟩ hX.2.1 (s := s) (by omega) b0
      have hF2 := hF1.tr p2
      rw [p1, bd2_s, if_bi]
      cases hm : mitm X.1 X.2 t s with
      | none =>
        have hno : ∀ e1, fdF t 59 (t.length - s) s = some e1 → itm X.1 X.2 t s e1 = none := by
          intro e1 he
          obtain ⟨-, -, f3, -⟩ := fdF_in _ _ _ _ _ he
          cases hi : itm X.1 X.2 t s e1 with
          | none => rfl
          | some Y => rw [itm_mitm f3 hi] at hm; cases hm
        refine ⟨V2, ?_, hF2, ?_⟩
        · cases hf : fdF t 59 (t.length - s) s with
          | none => rfl
          | some e1 => dsimp only; rw [hno e1 hf]; rfl
        · cases hf : fdF t 59 (t.length - s) s with
          | none => intro z; cases z
          | some e1 => dsimp only; rw [hno e1 hf]; intro z; cases z
      | some q =>
        obtain ⟨Y, p⟩ := q
        obtain ⟨i1, i2, i3, i4⟩ := mitm_itm hm
        obtain ⟨j1, j2, j3⟩ := p3 (Y, p) hm
        dsimp only at j1 j2 j3
        rw [Option.isSome_some, if_pos rfl, show (59 : Int32) = nI 59 from rfl]
        obtain ⟨V3, u1, u2, u3, u4⟩ := gone_s (hM.fr hF2.1) (ht.fr hF2) (p := p) (by omega) j3 (c := 59) (by omega)
        have hF3 := hF2.tr u2
        rw [u1, bd2_s, if_bi]
        by_cases e5 : ch t p = 59
        · have hp : p < t.length := by
            apply Nat.lt_of_not_le
            intro z
            rw [ch_out z] at e5
            cases e5
          have hf := fdF_eq t 59 (t.length - s) s p (by omega) (by omega) e5 i4
          rw [if_pos (decide_eq_true e5), hf]
          dsimp only
          rw [i1]
          dsimp only
          have hT3 : ToldAt V3 169 Y.1 := by
            obtain ⟨z1, z2, z3, z4⟩ := j1
            refine ⟨by rw [u4]; exact z1, by rw [u4]; exact z2, fun s hs => ?_, fun w hw => ?_⟩
            · obtain ⟨y1, y2, y3, y4⟩ := z3 s hs
              exact ⟨by rw [u4]; exact y1, by rw [u4]; exact y2, by rw [u4]; exact y3, fun k hk => by rw [u4]; exact y4 k hk⟩
            · obtain ⟨y1, y2, y3⟩ := z4 w hw
              exact ⟨by rw [u4]; exact y1, by rw [u4]; exact y2, fun k hk => by rw [u4]; exact y3 k hk⟩
          obtain ⟨V', g1, g2, g3⟩ := ih k (p + 1) V3 Y (by omega) (by omega) (by omega) (by omega) (hM.fr hF3.1) (ht.fr hF3) (itm_ok hX i1) hT3 (by rw [u4]; exact j2) u3
          exact ⟨V', g1, hF3.tr g2, g3⟩
        · have hno : ∀ e1, fdF t 59 (t.length - s) s = some e1 → itm X.1 X.2 t s e1 = none := by
            intro e1 he
            obtain ⟨-, -, f3, -⟩ := fdF_in _ _ _ _ _ he
            cases hi : itm X.1 X.2 t s e1 with
            | none => rfl
            | some Y' =>
              rw [itm_mitm f3 hi] at hm
              cases hm
              exact absurd f3 e5
          rw [if_neg (fun z => e5 (of_decide_eq_true z))]
          refine ⟨V3, ?_, hF3, ?_⟩
          · cases hf : fdF t 59 (t.length - s) s with
            | none => rfl
            | some e1 => dsimp only; rw [hno e1 hf]; rfl
          · cases hf : fdF t 59 (t.length - s) s with
            | none => intro z; cases z
            | some e1 => dsimp only; rw [hno e1 hf]; intro z; cases z
theorem mfault2 : ∀ (d n k : Nat) (V : Vx), k + d = 167 → d < n → MoSh T V → (∀ i, i < k → aI V 169 i = 0) → ∃ V', Mo_fault_L2 T 166 n V (nI k) = some V' ∧ FrF V V' ∧ ∀ i, i < 167 → aI V' 169 i = 0 := by
  intro d
  induction d with
  | zero =>
    intro n k V hk hn hM h0
    obtain ⟨n, rfl⟩ : ∃ m, n = m + 1 := ⟨n - 1, by omega⟩
    refine ⟨V, ?_, FrF.rf, fun i hi => h0 i (by omega)⟩
    rw [Mo_fault_L2, show (167 : Int32) = nI 167 from rfl, if_le (by omega) (by omega), if_pos (by omega)]
  | succ d ih =>
    intro n k V hk hn hM h0
    obtain ⟨n, rfl⟩ : ∃ m, n = m + 1 := ⟨n - 1, by omega⟩
    have hM' := hM
    obtain ⟨-, -, ⟨c1, c2, c3⟩, -⟩ := hM'
    have hF : FrF V (wI V 169 k 0) := FrF.wI V
    obtain ⟨V', g1, g2, g3⟩ := ih n (k + 1) (wI V 169 k 0) (by omega) (by omega) (hM.fr hF.1) (fun i hi => by
      rw [aI_wI]
      by_cases e : i = k
      · rw [if_pos ⟨rfl, e⟩]
      · rw [if_neg (fun z => e z.2)]; exact h0 i (by omega))
    refine ⟨V', ?_, hF.tr g2, g3⟩
    rw [Mo_fault_L2, show (167 : Int32) = nI 167 from rfl, if_le (by omega) (by omega), if_neg (by omega), c3, ck_s c1, bd_s, c2, gd_s (inb_n (by omega) (by omega)), lt, cl_n (by omega), nI_1]
    exact g1
theorem mfault_s {V : Vx} (hM : MoSh T V) (ht : TxM V t) : ∃ V', Mo_fault T V 166 = some (oI (pf t).1, V') ∧ FrF V V' ∧ ((pf t).1 = none → ToldAt V' 169 (pf t).2.1 ∧ aI V' 169 166 = bi (pf t).2.2) := by
  have h200 := ht.1
  obtain ⟨V1, p1, p2, p3⟩ := mfault2 (T := T) 167 FU 0 V (by omega) (by rw [← FU_big]; omega) hM (fun i hi => absurd hi (Nat.not_lt_zero i))
  have hF : FrF V (sI V1 902 166 0) := p2.tr (FrF.sI V1)
  obtain ⟨V2, q1, q2, q3⟩ := mfault_l (T := T) (t := t) (t.length + 1) FU 0 (sI V1 902 166 0) (([], []), false) (by omega) (by rw [← FU_big]; omega) (Nat.zero_le _) (by omega) (hM.fr hF.1) (ht.fr hF) OkX.nil ⟨by rw [aI_sI, p3 _ (by omega)]; rfl, by rw [aI_sI, p3 _ (by omega)]; rfl, fun s hs => absurd hs (Nat.not_lt_zero s), fun w hw => absurd hw (Nat.not_lt_zero w)⟩ (by rw [aI_sI, p3 _ (by omega)]; rfl) (by rw [fI_sI, if_pos ⟨rfl, rfl⟩]; rfl)
  refine ⟨V2, ?_, hF.tr q2, q3⟩
  rw [Mo_fault, show Mo_fault_L2 T 166 FU V 0 = some V1 from p1, bd_s, lt]
  exact q1
end MFL
