/-! ===== items of a text, by the Model ===== -/
section MJ
variable {T : Tx} {X : Lex} {lo : Bool} {t : List Nat}
/-- behind an item of the Model -/
def MItOk (V : Vx) (r : Option ((Lex × Bool) × Nat)) (o : Option (Int32 × Vx)) : Prop := ∃ V', o = some (bi r.isSome, V') ∧ FrF V V' ∧ ∀ q, r = some q → ToldAt V' 169 q.1.1 ∧ aI V' 169 166 = bi q.1.2 ∧ fI V' 902 166 = nI q.2
/-- what the Model has read so far -/
def RdOk (V : Vx) (X : Lex) (lo : Bool) : Prop := WFX X ∧ ToldAt V 169 X ∧ aI V 169 166 = bi lo
theorem MItOk.no {V V' : Vx} (hF : FrF V V') : MItOk V none (some (0, V')) := ⟨V', rfl, hF, fun q h => by cases h⟩
theorem MItOk.wrap {V : Vx} {r : Option ((Lex × Bool) × Nat)} {o : Option (Int32 × Vx)} (h : MItOk V r o) : MItOk V r (bd2 o (fun r V => gd (zo r) (some (r, V)))) := by
  obtain ⟨V', h1, h2, h3⟩ := h
  refine ⟨V', ?_, h2, h3⟩
  rw [h1, bd2_s, gd_s (zo_bi _)]
theorem msignM {V : Vx} (hM : MoSh T V) (ht : TxM V t) (hR : RdOk V X lo) {s : Nat} (hs : s < t.length) (h902 : fI V 902 166 = nI (s + 1)) :
    MItOk V (if ns X < 12 then (match dg t (s + 1) 5 with | none => none | some d => some ((addS X (2, d, []), lo), s + 2)) else none) (Mo_signItem T V 166 109) := by
  obtain ⟨hX, hT, hlo⟩ := hR
  have n12 := hX.1
  have h200 := ht.1
  rw [signPre hM n12 hT.1 (k := 2) (by decide)]
  by_cases h12 : ns X < 12
  · rw [if_pos h12, if_neg (by omega), if_pos rfl, show (5 : Int32) = nI 5 from rfl]
    have hF4 := V4_fr V (ns X) 2
    obtain ⟨V', g1, g2, g3, g4, g5⟩ := figure_s (hM.fr hF4.1) (ht.fr hF4) (p := s + 1) (by omega) ((V4_902 V _ _).trans h902) (to := 7 * ns X + 1) (hi := 5) (by omega) (by omega)
    rw [g1, bd2_s, gd_s (zo_bi _)]
    cases hd : dg t (s + 1) 5 with
    | none => exact MItOk.no (hF4.tr g2)
    | some d =>
      refine ⟨V', rfl, hF4.tr g2, fun q hq => ?_⟩
      cases hq
      refine ⟨ToldAt.addS hX hT h12 ?_ (fun i hi => ?_) ?_ ?_ ?_ (fun k hk => absurd hk (Nat.not_lt_zero k)), ?_, g3⟩
      · rw [g5 164 (by omega), V4_at, if_neg (by omega), if_neg (by omega), if_neg (by omega), if_pos rfl]
      · rw [g5 i (by omega), V4_at, if_neg (by omega), if_neg (by omega), if_neg (by omega), if_neg (by omega)]
      · rw [g5 _ (by omega), V4_at, if_neg (by omega), if_neg (by omega), if_pos rfl]
      · rw [g4 d hd]; rfl
      · rw [g5 _ (by omega), V4_at, if_pos rfl]; rfl
      · rw [g5 166 (by omega), V4_at, if_neg (by omega), if_neg (by omega), if_neg (by omega), if_neg (by omega)]; exact hlo
  · rw [if_neg h12, if_pos (by omega)]
    exact MItOk.no FrF.rf
theorem msignS {V : Vx} (hM : MoSh T V) (ht : TxM V t) (hR : RdOk V X lo) {s : Nat} (hs : s < t.length) (h902 : fI V 902 166 = nI (s + 1)) :
    MItOk V (if ns X < 12 then (if 0 < glF t 4 (s + 1) then some ((addS X (1, 0, sgF t (glF t 4 (s + 1)) (s + 1)), lo), s + 1 + glF t 4 (s + 1)) else none) else none) (Mo_signItem T V 166 115) := by
  obtain ⟨hX, hT, hlo⟩ := hR
  have n12 := hX.1
  have h200 := ht.1
  rw [signPre hM n12 hT.1 (k := 1) (by decide)]
  by_cases h12 : ns X < 12
  · rw [if_pos h12, if_neg (show ¬ ns X = 12 by omega), if_neg (show ¬ (115 : Int32) = 109 by decide), if_pos rfl, show (4 : Int32) = nI 4 from rfl]
    have hF4 := V4_fr V (ns X) 1
    obtain ⟨V', g1, g2, g3, g4, g5, g6⟩ := letters_s (hM.fr hF4.1) (ht.fr hF4) (p := s + 1) (by omega) ((V4_902 V _ _).trans h902) (to := 7 * ns X + 2) (most := 4) (by omega) (by omega)
    have hgl := (glF_spec t 4 (s + 1)).1
    rw [g1, bd2_s, if_bi]
    by_cases e : 0 < glF t 4 (s + 1)
    · rw [if_pos e, if_pos (decide_eq_true e)]
      refine ⟨V', rfl, hF4.tr g2, fun q hq => ?_⟩
      cases hq
      refine ⟨ToldAt.addS hX hT h12 ?_ (fun i hi => ?_) ?_ ?_ ?_ (fun k hk => ?_), ?_, g3⟩
      · rw [g6 164 (by omega), V4_at, if_neg (by omega), if_neg (by omega), if_neg (by omega), if_pos rfl]
      · rw [g6 i (by omega), V4_at, if_neg (by omega), if_neg (by omega), if_neg (by omega), if_neg (by omega)]
      · rw [g6 _ (by omega), V4_at, if_neg (by omega), if_neg (by omega), if_pos rfl]
      · rw [g6 _ (by omega), V4_at, if_neg (by omega), if_pos rfl]; rfl
      · rw [g4]
        show nI _ = nI (sgF t (glF t 4 (s + 1)) (s + 1)).length
        rw [sgF_len]
      · have hk' : k < (sgF t (glF t 4 (s + 1)) (s + 1)).length := hk
        rw [sgF_len] at hk'
        have := g5 k hk'
        show aI V' 169 (7 * ns X + 3 + k) = nI (ch (sgF t (glF t 4 (s + 1)) (s + 1)) k)
        rw [ch_sgF t _ _ _ hk', ← this]
      · rw [g6 166 (by omega), V4_at, if_neg (by omega), if_neg (by omega), if_neg (by omega), if_neg (by omega)]; exact hlo
    · rw [if_neg e, if_neg (fun z => e (of_decide_eq_true z))]
      exact MItOk.no (hF4.tr g2)
  · rw [if_neg h12, if_pos (by omega)]
    exact MItOk.no FrF.rf
theorem msignP {V : Vx} (hM : MoSh T V) (ht : TxM V t) (hR : RdOk V X lo) {s : Nat} (hs : s < t.length) (h902 : fI V 902 166 = nI (s + 1)) :
    MItOk V (if ns X < 12 then (match dg t (s + 1) 5 with | none => none | some d => if ch t (s + 2) = 44 then (if 0 < glF t 4 (s + 3) then some ((addS X (0, d, sgF t (glF t 4 (s + 3)) (s + 3)), lo), s + 3 + glF t 4 (s + 3)) else none) else none) else none) (Mo_signItem T V 166 112) := by
  obtain ⟨hX, hT, hlo⟩ := hR
  have n12 := hX.1
  have h200 := ht.1
  rw [signPre hM n12 hT.1 (k := 0) (by decide)]
  by_cases h12 : ns X < 12
  · rw [if_pos h12, if_neg (show ¬ ns X = 12 by omega), if_neg (by decide), if_neg (by decide), show (5 : Int32) = nI 5 from rfl]
    have hF4 := V4_fr V (ns X) 0
    obtain ⟨V1, f1, f2, f3, f4, f5⟩ := figure_s (hM.fr hF4.1) (ht.fr hF4) (p := s + 1) (by omega) ((V4_902 V _ _).trans h902) (to := 7 * ns X + 1) (hi := 5) (by omega) (by omega)
    have hF5 := hF4.tr f2
    rw [f1, bd2_s, if_bi]
    cases hd : dg t (s + 1) 5 with
    | none => exact MItOk.no hF5
    | some d =>
      dsimp only
      rw [Option.isSome_some, if_pos rfl, show (44 : Int32) = nI 44 from rfl]
      obtain ⟨V2, u1, u2, u3, u4⟩ := gone_s (hM.fr hF5.1) (ht.fr hF5) (p := s + 2) (by omega) f3 (c := 44) (by omega)
      have hF6 := hF5.tr u2
      rw [u1, bd2_s, if_bi]
      by_cases e0 : ch t (s + 2) = 44
      · rw [if_pos e0, if_pos (decide_eq_true e0), show (4 : Int32) = nI 4 from rfl]
        obtain ⟨V', g1, g2, g3, g4, g5, g6⟩ := letters_s (hM.fr hF6.1) (ht.fr hF6) (p := s + 3) (by omega) u3 (to := 7 * ns X + 2) (most := 4) (by omega) (by omega)
        have hgl := (glF_spec t 4 (s + 3)).1
        rw [g1, bd2_s, if_bi]
        by_cases e : 0 < glF t 4 (s + 3)
        · rw [if_pos e, if_pos (decide_eq_true e)]
          refine ⟨V', rfl, hF6.tr g2, fun q hq => ?_⟩
          cases hq
          refine ⟨ToldAt.addS hX hT h12 ?_ (fun i hi => ?_) ?_ ?_ ?_ (fun k hk => ?_), ?_, g3⟩
          · rw [g6 164 (by omega), u4, f5 164 (by omega), V4_at, if_neg (by omega), if_neg (by omega), if_neg (by omega), if_pos rfl]
          · rw [g6 i (by omega), u4, f5 i (by omega), V4_at, if_neg (by omega), if_neg (by omega), if_neg (by omega), if_neg (by omega)]
          · rw [g6 _ (by omega), u4, f5 _ (by omega), V4_at, if_neg (by omega), if_neg (by omega), if_pos rfl]
          · rw [g6 _ (by omega), u4, f4 d hd]; rfl
          · rw [g4]
            show nI _ = nI (sgF t (glF t 4 (s + 3)) (s + 3)).length
            rw [sgF_len]
          · have hk' : k < (sgF t (glF t 4 (s + 3)) (s + 3)).length := hk
            rw [sgF_len] at hk'
            have := g5 k hk'
            show aI V' 169 (7 * ns X + 3 + k) = nI (ch (sgF t (glF t 4 (s + 3)) (s + 3)) k)
            rw [ch_sgF t _ _ _ hk', ← this]
          · rw [g6 166 (by omega), u4, f5 166 (by omega), V4_at, if_neg (by omega), if_neg (by omega), if_neg (by omega), if_neg (by omega)]; exact hlo
        · rw [if_neg e, if_neg (fun z => e (of_decide_eq_true z))]
          exact MItOk.no (hF6.tr g2)
      · rw [if_neg e0, if_neg (fun z => e0 (of_decide_eq_true z))]
        exact MItOk.no hF6
  · rw [if_neg h12, if_pos (by omega)]
    exact MItOk.no FrF.rf
theorem mlawI {V : Vx} (hM : MoSh T V) (ht : TxM V t) (hR : RdOk V X lo) {s : Nat} (hs : s < t.length) (h902 : fI V 902 166 = nI (s + 1)) :
    MItOk V (match dg t (s + 1) 1 with | none => none | some d => some ((X, decide (d = 1)), s + 2)) (Mo_figure T V 166 166 1) := by
  obtain ⟨hX, hT, hlo⟩ := hR
  have h200 := ht.1
  obtain ⟨V', g1, g2, g3, g4, g5⟩ := figure_s hM ht (p := s + 1) (by omega) h902 (to := 166) (hi := 1) (by omega) (by omega)
  rw [show (166 : Int32) = nI 166 from rfl, show (1 : Int32) = nI 1 from rfl, g1]
  cases hd : dg t (s + 1) 1 with
  | none => exact MItOk.no g2
  | some d =>
    refine ⟨V', rfl, g2, fun q hq => ?_⟩
    cases hq
    obtain ⟨h1, h2, h3, h4⟩ := hT
    obtain ⟨w1, w2, w3, w4, -⟩ := hX
    refine ⟨⟨by rw [g5 _ (by omega)]; exact h1, by rw [g5 _ (by omega)]; exact h2, fun s hs => ?_, fun w hw => ?_⟩, ?_, g3⟩
    · obtain ⟨z1, z2, z3, z4⟩ := h3 s hs
      have hs' : s < ns X := hs
      have hl := (w3 s hs).2.2.2.2
      exact ⟨by rw [g5 _ (by omega)]; exact z1, by rw [g5 _ (by omega)]; exact z2, by rw [g5 _ (by omega)]; exact z3, fun k hk => by rw [g5 _ (by have : k < (su X s).length := hk; omega)]; exact z4 k hk⟩
    · obtain ⟨z1, z2, z3⟩ := h4 w hw
      have hw' : w < nw X := hw
      have hl := (w4 w hw).2.2
      exact ⟨by rw [g5 _ (by omega)]; exact z1, by rw [g5 _ (by omega)]; exact z2, fun k hk => by rw [g5 _ (by have : k < (wl X w).length := hk; omega)]; exact z3 k hk⟩
    · rw [g4 d hd]
      have := dg_le hd
      have hd2 : d = 0 ∨ d = 1 := by omega
      rcases hd2 with rfl | rfl
      · rfl
      · rfl
end MJ
