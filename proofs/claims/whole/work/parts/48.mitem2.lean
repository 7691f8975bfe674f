/-! ===== signs of a text, by the Model ===== -/
theorem ch_sgF (t : List Nat) : ∀ (d i k : Nat), k < d → ch (sgF t d i) k = ch t (i + k) := by
  intro d
  induction d with
  | zero => intro i k h; omega
  | succ d ih =>
    intro i k h
    rw [sgF]
    cases k with
    | zero => rfl
    | succ k =>
      have := ih (i + 1) k (by omega)
      rw [show i + 1 + k = i + (k + 1) by omega] at this
      exact this
theorem glF_eq (t : List Nat) : ∀ (d p n : Nat), n ≤ d → (∀ i, i < n → isA (ch t (p + i)) = true) → isA (ch t (p + n)) = false → glF t d p = n := by
  intro d p n h1 h2 h3
  obtain ⟨g1, g2, g3⟩ := glF_spec t d p
  rcases Nat.lt_trichotomy (glF t d p) n with h | h | h
  · have a := h2 _ h
    rw [g3 (by omega)] at a
    cases a
  · exact h
  · have a := g2 _ h
    rw [h3] at a
    cases a
theorem ToldAt.addS {V V' : Vx} {X : Lex} (hX : WFX X) (h : ToldAt V 169 X) (h12 : ns X < 12) {a : Sg} (e1 : aI V' 169 164 = nI (ns X + 1)) (e2 : ∀ i, i < 7 * ns X ∨ (84 ≤ i ∧ i ≠ 164) → aI V' 169 i = aI V 169 i) (g0 : aI V' 169 (7 * ns X) = nI a.1) (g1 : aI V' 169 (7 * ns X + 1) = if a.1 = 1 then -4 else nI a.2.1) (g2 : aI V' 169 (7 * ns X + 2) = nI a.2.2.length) (g3 : ∀ k, k < a.2.2.length → aI V' 169 (7 * ns X + 3 + k) = nI (ch a.2.2 k)) : ToldAt V' 169 (addS X a) := by
  obtain ⟨h1, h2, h3, h4⟩ := h
  obtain ⟨w1, w2, w3, w4, -⟩ := hX
  refine ⟨by rw [e1, ns_addS], by rw [e2 165 (by omega)]; exact h2, fun s hs => ?_, fun w hw => ?_⟩
  · rw [ns_addS] at hs
    rw [sk_addS, sc_addS, su_addS]
    by_cases e : s < ns X
    · rw [if_pos e, if_pos e, if_pos e]
      obtain ⟨z1, z2, z3, z4⟩ := h3 s e
      have hl := (w3 s e).2.2.2.2
      refine ⟨by rw [e2 _ (by omega)]; exact z1, by rw [e2 _ (by omega)]; exact z2, by rw [e2 _ (by omega)]; exact z3, fun k hk => by rw [e2 _ (by omega)]; exact z4 k hk⟩
    · have es : s = ns X := by omega
      rw [if_neg e, if_neg e, if_neg e, if_pos es, if_pos es, if_pos es, es]
      exact ⟨g0, g1, g2, g3⟩
  · have hw' : w < nw X := hw
    obtain ⟨z1, z2, z3⟩ := h4 w hw'
    have hl := (w4 w hw').2.2
    exact ⟨by rw [e2 _ (by omega)]; exact z1, by rw [e2 _ (by omega)]; exact z2, fun k hk => by rw [e2 _ (by have : k < (wl X w).length := hk; omega)]; exact z3 k hk⟩
theorem ToldAt.addW {V V' : Vx} {X : Lex} (hX : WFX X) (h : ToldAt V 169 X) (h8 : nw X < 8) {a : Wd} (e1 : aI V' 169 165 = nI (nw X + 1)) (e2 : ∀ i, (i < 84 + 10 * nw X ∨ i = 164) → aI V' 169 i = aI V 169 i) (g0 : aI V' 169 (84 + 10 * nw X) = nI a.1) (g2 : aI V' 169 (84 + 10 * nw X + 1) = nI a.2.length) (g3 : ∀ k, k < a.2.length → aI V' 169 (84 + 10 * nw X + 2 + k) = nI (ch a.2 k)) : ToldAt V' 169 (addW X a) := by
  obtain ⟨h1, h2, h3, h4⟩ := h
  obtain ⟨w1, w2, w3, w4, -⟩ := hX
  refine ⟨by rw [e2 164 (by omega)]; exact h1, by rw [e1, nw_addW], fun s hs => ?_, fun w hw => ?_⟩
  · have hs' : s < ns X := hs
    obtain ⟨z1, z2, z3, z4⟩ := h3 s hs'
    have hl := (w3 s hs').2.2.2.2
    exact ⟨by rw [e2 _ (by omega)]; exact z1, by rw [e2 _ (by omega)]; exact z2, by rw [e2 _ (by omega)]; exact z3, fun k hk => by rw [e2 _ (by have : k < (su X s).length := hk; omega)]; exact z4 k hk⟩
  · rw [nw_addW] at hw
    rw [wc_addW, wl_addW]
    by_cases e : w < nw X
    · rw [if_pos e, if_pos e]
      obtain ⟨z1, z2, z3⟩ := h4 w e
      have hl := (w4 w e).2.2
      exact ⟨by rw [e2 _ (by omega)]; exact z1, by rw [e2 _ (by omega)]; exact z2, fun k hk => by rw [e2 _ (by omega)]; exact z3 k hk⟩
    · have es : w = nw X := by omega
      rw [if_neg e, if_neg e, if_pos es, if_pos es, es]
      exact ⟨g0, g2, g3⟩
/-- an item as the Model takes it: the lexicon, the law, the place behind it -/
def mitm (X : Lex) (lo : Bool) (t : List Nat) (s : Nat) : Option ((Lex × Bool) × Nat) :=
  if ch t s = 107 then (match dg t (s + 1) 1 with | none => none | some d => some ((X, decide (d = 1)), s + 2))
  else if ch t s = 109 then (if ns X < 12 then (match dg t (s + 1) 5 with | none => none | some d => some ((addS X (2, d, []), lo), s + 2)) else none)
  else if ch t s = 112 then (if ns X < 12 then (match dg t (s + 1) 5 with | none => none | some d => if ch t (s + 2) = 44 then (if 0 < glF t 4 (s + 3) then some ((addS X (0, d, sgF t (glF t 4 (s + 3)) (s + 3)), lo), s + 3 + glF t 4 (s + 3)) else none) else none) else none)
  else if ch t s = 115 then (if ns X < 12 then (if 0 < glF t 4 (s + 1) then some ((addS X (1, 0, sgF t (glF t 4 (s + 1)) (s + 1)), lo), s + 1 + glF t 4 (s + 1)) else none) else none)
  else if ch t s = 119 then (if nw X < 8 then (match dg t (s + 1) 5 with | none => none | some d => if ch t (s + 2) = 44 then (if 0 < glF t 8 (s + 3) then (if fsF (ow X d (sgF t (glF t 8 (s + 3)) (s + 3))) (nw X) 0 = none then some ((addW X (d, sgF t (glF t 8 (s + 3)) (s + 3)), lo), s + 3 + glF t 8 (s + 3)) else none) else none) else none) else none)
  else none
section MI
variable {T : Tx}
def V4 (V : Vx) (N k : Nat) : Vx := wI (wI (wI (wI V 169 164 (nI (N + 1))) 169 (7 * N) (nI k)) 169 (7 * N + 1) (-4)) 169 (7 * N + 2) 0
theorem V4_fr (V : Vx) (N k : Nat) : FrF V (V4 V N k) := (((FrF.wI V).tr (FrF.wI _)).tr (FrF.wI _)).tr (FrF.wI _)
theorem V4_at (V : Vx) (N k i : Nat) : aI (V4 V N k) 169 i = if i = 7 * N + 2 then 0 else if i = 7 * N + 1 then -4 else if i = 7 * N then nI k else if i = 164 then nI (N + 1) else aI V 169 i := by
  unfold V4
  simp only [aI_wI, true_and]
theorem V4_902 (V : Vx) (N k : Nat) : fI (V4 V N k) 902 166 = fI V 902 166 := rfl
theorem signPre {V : Vx} (hM : MoSh T V) {N : Nat} (hN : N ≤ 12) (h164 : aI V 169 164 = nI N) {p1 : Int32} {k : Nat} (hk : (if p1 = 112 then (some 0 : Option Int32) else (if p1 = 115 then some 1 else some 2)) = some (nI k)) :
    Mo_signItem T V 166 p1 = if N = 12 then some (0, V) else (if p1 = 109 then bd2 (Mo_figure T (V4 V N k) 166 (nI (7 * N + 1)) 5) (fun r69 V68 => gd (zo r69) (some (r69, V68))) else (if p1 = 115 then bd2 (Mo_letters T (V4 V N k) 166 (nI (7 * N + 2)) 4) (fun r53 V52 => (if r53 = 0 then some (0, V52) else some (1, V52))) else bd2 (Mo_figure T (V4 V N k) 166 (nI (7 * N + 1)) 5) (fun r57 V56 => (if r57 = 0 then some (0, V56) else bd2 (Mo_gone T V56 166 44) (fun r61 V60 => (if r61 = 0 then some (0, V60) else bd2 (Mo_letters T V60 166 (nI (7 * N + 2)) 4) (fun r65 V64 => (if r65 = 0 then some (0, V64) else some (1, V64))))))))) := by
  obtain ⟨-, -, ⟨c1, c2, c3⟩, -⟩ := hM
  rw [Mo_signItem, show (164 : Int32) = nI 164 from rfl, c3, ck_s c1, bd_s, c2, gd_s (inb_n (by omega) (by omega)), cl_n (by omega), h164, lt, bd_s, c2, gd_s (inb_n (by omega) (by omega)), h164, show (12 : Int32) = nI 12 from rfl, if_eqn (by omega) (by omega)]
  by_cases e : N = 12
  · rw [if_pos e, if_pos e]
  · rw [if_neg e, if_neg e, bd_s, c2, gd_s (inb_n (by omega) (by omega)), gd_s (inb_n (by omega) (by omega)), lt, h164, nI_1, fR_wI, c3, ck_s c1, bd_s, hk, bd_s, ixS, c2, gd_s (inb_n (by omega) (by omega)), lt, cl_n (by omega), fR_wI, fR_wI, c3, ck_s c1, bd_s, ad_1, c2, gd_s (inb_n (by omega) (by omega)), lt, cl_n (by omega), fR_wI, fR_wI, fR_wI, c3, ck_s c1, bd_s, ad_2, c2, gd_s (inb_n (by omega) (by omega)), lt, cl_n (by omega)]
    rfl
end MI
