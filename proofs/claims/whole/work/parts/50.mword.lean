/-! ===== words of a text, by the Model ===== -/
section MK2
variable {T : Tx} {X : Lex} {lo : Bool} {t : List Nat}
theorem wi91 {V : Vx} (hM : MoSh T V) {w o le : Nat} (hw : w < 8) (ho : o < 8) (hle : le ≤ 8) (h1 : aI V 169 (84 + 10 * w + 1) = nI le) (x6 v32 : Int32) : ∀ (d n k : Nat) (c : Bool), k + d = 2 + le → d < n →
    Mo_wordItem_L91 T V 166 x6 (nI (84 + 10 * w)) v32 (nI (84 + 10 * o)) n (bi c) (nI k) = some (bi (c && alF (fun k => decide (aI V 169 (84 + 10 * w + k) = aI V 169 (84 + 10 * o + k))) d k)) := by
  obtain ⟨-, -, ⟨c1, c2, c3⟩, -⟩ := hM
  intro d
  induction d with
  | zero =>
    intro n k c hk hn
    obtain ⟨n, rfl⟩ : ∃ m, n = m + 1 := ⟨n - 1, by omega⟩
    rw [Mo_wordItem_L91, c3, ck_s c1, bd_s, ad_1, c2, gd_s (inb_n (by omega) (by omega)), cl_n (by omega), h1, show (2 : Int32) = nI 2 from rfl, nI_add, if_le (by omega) (by omega), if_pos (by omega), alF, Bool.and_true]
  | succ d ih =>
    intro n k c hk hn
    obtain ⟨n, rfl⟩ : ∃ m, n = m + 1 := ⟨n - 1, by omega⟩
    rw [Mo_wordItem_L91, c3, ck_s c1, bd_s, ad_1, c2, gd_s (inb_n (by omega) (by omega)), cl_n (by omega), h1, show (2 : Int32) = nI 2 from rfl, nI_add, if_le (by omega) (by omega), if_neg (by omega), if_bi, nI_1]
    cases c with
    | false =>
      rw [if_neg (by decide), show (0 : Int32) = bi false from rfl, ih n (k + 1) false (by omega) (by omega)]
      rfl
    | true =>
      rw [if_pos rfl, bd_s, nI_add, c2, gd_s (inb_n (by omega) (by omega)), bd_s, nI_add, c2, gd_s (inb_n (by omega) (by omega)), cl_n (by omega), cl_n (by omega), alF]
      by_cases e : aI V 169 (84 + 10 * w + k) = aI V 169 (84 + 10 * o + k)
      · rw [if_pos e, decide_eq_true e, show (1 : Int32) = bi true from rfl, ih n (k + 1) true (by omega) (by omega)]
        rfl
      · rw [if_neg e, decide_eq_false e, show (0 : Int32) = bi false from rfl, ih n (k + 1) false (by omega) (by omega)]
        rfl
theorem wi91_ow {V : Vx} (hX : WFX X) (hT : ∀ w, w < nw X → aI V 169 (84 + 10 * w) = nI (wc X w) ∧ aI V 169 (84 + 10 * w + 1) = nI (wl X w).length ∧ ∀ k, k < (wl X w).length → aI V 169 (84 + 10 * w + 2 + k) = nI (ch (wl X w) k)) (h128 : ∀ w, w < nw X → ∀ x ∈ wl X w, x < 128) {W d : Nat} {u : List Nat} (hd : d ≤ 5) (hu : ∀ x ∈ u, x < 128) (hu8 : u.length ≤ 8) (g0 : aI V 169 (84 + 10 * W) = nI d) (g1 : aI V 169 (84 + 10 * W + 1) = nI u.length) (g2 : ∀ k, k < u.length → aI V 169 (84 + 10 * W + 2 + k) = nI (ch u k)) {o : Nat} (ho : o < nw X) :
    alF (fun k => decide (aI V 169 (84 + 10 * W + k) = aI V 169 (84 + 10 * o + k))) (2 + u.length) 0 = ow X d u o := by
  obtain ⟨z1, z2, z3⟩ := hT o ho
  obtain ⟨w1, w2, w3, w4, -⟩ := hX
  have b1 := (w4 o ho)
  rw [Bool.eq_iff_iff, alF_iff]
  unfold ow
  rw [Bool.and_eq_true_iff]
  constructor
  · intro h
    have h0 := of_decide_eq_true (h 0 (by omega) (by omega))
    have h1 := of_decide_eq_true (h 1 (by omega) (by omega))
    rw [Nat.add_zero, Nat.add_zero, g0, z1, nI_eq (by omega) (by omega)] at h0
    rw [g1, z2, nI_eq (by omega) (by omega)] at h1
    refine ⟨decide_eq_true h0.symm, decide_eq_true (ch_ext h1.symm fun i hi => ?_)⟩
    have h2 := of_decide_eq_true (h (2 + i) (by omega) (by omega))
    rw [← Nat.add_assoc, ← Nat.add_assoc, g2 i (by omega), z3 i hi] at h2
    have q1 := gD_lt hu (by decide) i
    have q2 := gD_lt (h128 o ho) (by decide) i
    rw [nI_eq (by omega) (by omega)] at h2
    exact h2.symm
  · rintro ⟨h1, h2⟩ i - hi
    have h1 := of_decide_eq_true h1
    have h2 := of_decide_eq_true h2
    rw [decide_eq_true_eq]
    match i with
    | 0 => rw [Nat.add_zero, Nat.add_zero, g0, z1, h1]
    | 1 => rw [g1, z2, h2]
    | i + 2 =>
      rw [show 84 + 10 * W + (i + 2) = 84 + 10 * W + 2 + i by omega, show 84 + 10 * o + (i + 2) = 84 + 10 * o + 2 + i by omega, g2 i (by omega), z3 i (by rw [h2]; omega), h2]
theorem wi71 {V : Vx} (hM : MoSh T V) {W le : Nat} (hW : W < 8) (hle : le ≤ 8) (h1 : aI V 169 (84 + 10 * W + 1) = nI le) {f : Nat → Bool} (hf : ∀ o, o < W → alF (fun k => decide (aI V 169 (84 + 10 * W + k) = aI V 169 (84 + 10 * o + k))) (2 + le) 0 = f o) : ∀ (d n o : Nat), o + d = W → d < n →
    Mo_wordItem_L71 T V 166 (nI W) (nI (84 + 10 * W)) n (nI o) = some (bi (decide (fsF f d o = none)), V) := by
  intro d
  induction d with
  | zero =>
    intro n o hk hn
    obtain ⟨n, rfl⟩ : ∃ m, n = m + 1 := ⟨n - 1, by omega⟩
    rw [Mo_wordItem_L71, if_le (by omega) (by omega), if_pos (by omega)]
    rfl
  | succ d ih =>
    intro n o hk hn
    obtain ⟨n, rfl⟩ : ∃ m, n = m + 1 := ⟨n - 1, by omega⟩
    have := wi91 hM hW (show o < 8 by omega) hle h1 (nI W) (nI o) (2 + le) FU 0 true (by omega) (by rw [← FU_big]; omega)
    rw [Bool.true_and, hf o (by omega)] at this
    rw [Mo_wordItem_L71, if_le (by omega) (by omega), if_neg (by omega), lt, ixW, show (1 : Int32) = bi true from rfl, show (0 : Int32) = nI 0 from rfl, this, bd_s, show nI 0 = (0 : Int32) from rfl, if_bi, show bi true = (1 : Int32) from rfl, nI_1, ih n (o + 1) (by omega) (by omega), fsF]
    by_cases e : f o = true
    · rw [if_pos e, if_pos e, decide_eq_false (by simp)]; rfl
    · rw [if_neg e, if_neg e]
set_option maxHeartbeats 1000000 in
theorem mwordI {V : Vx} (hM : MoSh T V) (ht : TxM V t) (hR : RdOk V X lo) (h128 : ∀ w, w < nw X → ∀ x ∈ wl X w, x < 128) {s : Nat} (hs : s < t.length) (h902 : fI V 902 166 = nI (s + 1)) :
    MItOk V (if nw X < 8 then (match dg t (s + 1) 5 with | none => none | some d => if ch t (s + 2) = 44 then (if 0 < glF t 8 (s + 3) then (if fsF (ow X d (sgF t (glF t 8 (s + 3)) (s + 3))) (nw X) 0 = none then some ((addW X (d, sgF t (glF t 8 (s + 3)) (s + 3)), lo), s + 3 + glF t 8 (s + 3)) else none) else none) else none) else none) (Mo_wordItem T V 166) := by
  obtain ⟨hX, hT, hlo⟩ := hR
  have n8 := hX.2.1
  have h200 := ht.1
  have hM' := hM
  obtain ⟨-, -, ⟨c1, c2, c3⟩, -⟩ := hM'
  rw [Mo_wordItem, show (165 : Int32) = nI 165 from rfl, c3, ck_s c1, bd_s, c2, gd_s (inb_n (by omega) (by omega)), cl_n (by omega), hT.2.1, lt, lt, show (8 : Int32) = nI 8 from rfl, if_eqn (by omega) (by omega), ixW]
  by_cases h8 : nw X < 8
  · obtain ⟨V0, hV0⟩ : ∃ V0, V0 = wI V 169 165 (nI (nw X + 1)) := ⟨_, rfl⟩
    have hF0 : FrF V V0 := by rw [hV0]; exact FrF.wI V
    have a0 : ∀ i, i ≠ 165 → aI V0 169 i = aI V 169 i := fun i hi => by rw [hV0, aI_wI, if_neg (fun z => hi z.2)]
    have a1 : aI V0 169 165 = nI (nw X + 1) := by rw [hV0, aI_wI, if_pos ⟨rfl, rfl⟩]
    have b0 : fI V0 902 166 = nI (s + 1) := by rw [hV0]; exact h902
    rw [if_pos h8, if_neg (by omega), bd_s, c2, gd_s (inb_n (by omega) (by omega)), gd_s (inb_n (by omega) (by omega)), lt, hT.2.1, nI_1 (nw X), ← hV0, show (5 : Int32) = nI 5 from rfl]
    obtain ⟨V1, f1, f2, f3, f4, f5⟩ := figure_s (hM.fr hF0.1) (ht.fr hF0) (p := s + 1) (by omega) b0 (to := 84 + 10 * nw X) (hi := 5) (by omega) (by omega)
    have hF5 := hF0.tr f2
    rw [f1, bd2_s, if_bi]
    cases hd : dg t (s + 1) 5 with
    | none => exact MItOk.no hF5
    | some d =>
      dsimp only
      rw [Option.isSome_some, if_pos rfl, show (44 : Int32) = nI 44 from rfl]
      obtain ⟨V2, u1, u2, u3, u4⟩ := gone_s (hM.fr hF5.1) (ht.fr hF5) (p := s + 2) (by omega) f3 (c := 44) (by omega)
      have hF6 := hF5.tr u2
      rw [u1, bd2_s, if_bi]
      by_cases e0 : ch t (s + 2) = 44
      · rw [if_pos e0, if_pos (decide_eq_true e0), ad_1]
        obtain ⟨V', g1, g2, g3, g4, g5, g6⟩ := letters_s (hM.fr hF6.1) (ht.fr hF6) (p := s + 3) (by omega) u3 (to := 84 + 10 * nw X + 1) (most := 8) (by omega) (by omega)
        have hgl := (glF_spec t 8 (s + 3)).1
        have hF7 := hF6.tr g2
        rw [g1, bd2_s, if_bi]
        by_cases e : 0 < glF t 8 (s + 3)
        · rw [if_pos e, if_pos (decide_eq_true e)]
          have k0 : ∀ i, i < 84 + 10 * nw X ∨ (i = 164 ∨ i = 166) → aI V' 169 i = aI V 169 i := fun i hi => by rw [g6 i (by omega), u4, f5 i (by omega), a0 i (by omega)]
          have k1 : aI V' 169 165 = nI (nw X + 1) := by rw [g6 165 (by omega), u4, f5 165 (by omega), a1]
          have k2 : aI V' 169 (84 + 10 * nw X) = nI d := by rw [g6 _ (by omega), u4, f4 d hd]
          have hT' : ∀ w, w < nw X → aI V' 169 (84 + 10 * w) = nI (wc X w) ∧ aI V' 169 (84 + 10 * w + 1) = nI (wl X w).length ∧ ∀ k, k < (wl X w).length → aI V' 169 (84 + 10 * w + 2 + k) = nI (ch (wl X w) k) := by
            intro w hw
            obtain ⟨z1, z2, z3⟩ := hT.2.2.2 w hw
            have hl := (hX.2.2.2.1 w hw).2.2
            exact ⟨by rw [k0 _ (by omega)]; exact z1, by rw [k0 _ (by omega)]; exact z2, fun k hk => by rw [k0 _ (by omega)]; exact z3 k hk⟩
          have hu : ∀ x ∈ sgF t (glF t 8 (s + 3)) (s + 3), x < 128 := by
            intro x hx
            obtain ⟨i, hi, rfl⟩ := List.getElem_of_mem hx
            have hi' := hi
            rw [sgF_len] at hi'
            have h1 := ch_sgF t _ (s + 3) i hi'
            have h2 := gD_lt ht.2.2.2 (by decide) (s + 3 + i)
            unfold ch at h1
            rw [List.getD_eq_getElem?_getD, List.getElem?_eq_getElem hi] at h1
            have h3 : (sgF t (glF t 8 (s + 3)) (s + 3))[i] = ch t (s + 3 + i) := h1
            rw [h3]
            exact h2
          have k3 : ∀ k, k < (sgF t (glF t 8 (s + 3)) (s + 3)).length → aI V' 169 (84 + 10 * nw X + 2 + k) = nI (ch (sgF t (glF t 8 (s + 3)) (s + 3)) k) := by
            intro k hk
            rw [sgF_len] at hk
            have := g5 k hk
            rw [ch_sgF t _ _ _ hk, ← this]
          have k4 : aI V' 169 (84 + 10 * nw X + 1) = nI (sgF t (glF t 8 (s + 3)) (s + 3)).length := by rw [g4, sgF_len]
          have hw7 := wi71 (hM.fr hF7.1) h8 (le := (sgF t (glF t 8 (s + 3)) (s + 3)).length) (by rw [sgF_len]; omega) k4 (f := ow X d (sgF t (glF t 8 (s + 3)) (s + 3))) (fun o ho => wi91_ow hX hT' h128 (dg_le hd) hu (by rw [sgF_len]; omega) k2 k4 k3 ho) (nw X) FU 0 (by omega) (by rw [← FU_big]; omega)
          rw [show (0 : Int32) = nI 0 from rfl, hw7]
          by_cases e2 : fsF (ow X d (sgF t (glF t 8 (s + 3)) (s + 3))) (nw X) 0 = none
          · rw [if_pos e2, decide_eq_true e2]
            refine ⟨V', rfl, hF7, fun q hq => ?_⟩
            cases hq
            exact ⟨ToldAt.addW hX hT h8 k1 (fun i hi => k0 i (by omega)) k2 k4 k3, by rw [k0 166 (by omega)]; exact hlo, g3⟩
          · rw [if_neg e2, decide_eq_false e2]
            exact MItOk.no hF7
        · rw [if_neg e, if_neg (fun z => e (of_decide_eq_true z))]
          exact MItOk.no hF7
      · rw [if_neg e0, if_neg (fun z => e0 (of_decide_eq_true z))]
        exact MItOk.no hF6
  · rw [if_neg h8, if_pos (by omega)]
    exact MItOk.no FrF.rf
theorem mitem_s {V : Vx} (hM : MoSh T V) (ht : TxM V t) (hR : RdOk V X lo) (h128 : ∀ w, w < nw X → ∀ x ∈ wl X w, x < 128) {s : Nat} (hs : s < t.length) (h902 : fI V 902 166 = nI (s + 1)) :
    MItOk V (mitm X lo t s) (Mo_item T V 166 (nI (ch t s))) := by
  have h := gD_lt ht.2.2.2 (by decide) s
  have q : ∀ c, c < 128 → (nI (ch t s) = nI c ↔ ch t s = c) := fun c hc => nI_eq (by omega) (by omega)
  rw [Mo_item, show (107 : Int32) = nI 107 from rfl, show (109 : Int32) = nI 109 from rfl, show (112 : Int32) = nI 112 from rfl, show (115 : Int32) = nI 115 from rfl, show (119 : Int32) = nI 119 from rfl]
  unfold mitm
  by_cases e1 : ch t s = 107
  · rw [if_pos e1, if_pos ((q 107 (by decide)).mpr e1)]; exact (mlawI hM ht hR hs h902).wrap
  · rw [if_neg e1, if_neg (fun z => e1 ((q 107 (by decide)).mp z))]
    by_cases e2 : ch t s = 109
    · rw [if_pos e2, if_pos (Or.inl ((q 109 (by decide)).mpr e2)), e2]; exact (msignM hM ht hR hs h902).wrap
    · rw [if_neg e2]
      by_cases e3 : ch t s = 112
      · rw [if_pos e3, if_pos (Or.inr (Or.inl ((q 112 (by decide)).mpr e3))), e3]; exact (msignP hM ht hR hs h902).wrap
      · rw [if_neg e3]
        by_cases e4 : ch t s = 115
        · rw [if_pos e4, if_pos (Or.inr (Or.inr ((q 115 (by decide)).mpr e4))), e4]; exact (msignS hM ht hR hs h902).wrap
        · rw [if_neg e4, if_neg (show ¬ (nI (ch t s) = nI 109 ∨ nI (ch t s) = nI 112 ∨ nI (ch t s) = nI 115) by
            rintro (z | z | z)
            · exact e2 ((q 109 (by decide)).mp z)
            · exact e3 ((q 112 (by decide)).mp z)
            · exact e4 ((q 115 (by decide)).mp z))]
          by_cases e5 : ch t s = 119
          · rw [if_pos e5, if_pos ((q 119 (by decide)).mpr e5)]; exact (mwordI hM ht hR h128 hs h902).wrap
          · rw [if_neg e5, if_neg (fun z => e5 ((q 119 (by decide)).mp z))]
            exact MItOk.no FrF.rf
end MK2
