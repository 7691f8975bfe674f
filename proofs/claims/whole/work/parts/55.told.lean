/-! ===== write, wipe, fault ===== -/
/-- both answer alike, and go on side by side -/
def Jn (T : Tx) (o : Option (Int32 × Vx)) (g : Vx → Option (Int32 × Vx)) : Prop := ∃ r V1 V2, o = some (r, V1) ∧ g V1 = some (r, V2) ∧ Rel T V2
section TO
variable {T : Tx} {V V' : Vx} {L D : Nat} {t t' : List Nat} {X : Lex} {lo : Bool} {m : Nat} {c : List Nat} {n : Nat} {K : Nat → Nat × Nat} {Ss : Nat → Snap}
theorem RC.text (h : RC T V L D t X lo m c n K) (hF : Fr (fun y => y = 1 ∨ y = 2) V V') (ht : LetAt T V' 1 2 200 t') : RC T V' L D t' X lo m c n K := by
  obtain ⟨a1, a2, a3, a4, a5, a6, a7, a8, a9⟩ := h
  have hd := a1.2.2.2.2.2.2.2.2.2.2
  exact ⟨a1.fr hF, ht, a3.fr hF (by omega) (by omega), a4.fr hF, a5.fr hF (by omega) (by omega) (by omega), a6.fr a8.2.1.2.1 hF (fun y h1 h2 => by omega), a7.fr hF, a8.fr hF (fun a h1 h2 => by omega), LexAt.sh' a9 hF⟩
theorem RM.text (h : RM T V t X lo m c n Ss) (hF : Fr (fun y => y = 166 ∨ y = 167) V V') (hf : fI V' 907 166 = fI V 907 166) (ht : TxM V' t') : RM T V' t' X lo m c n Ss := by
  obtain ⟨m1, c1, t1, p1⟩ := h
  have a1 : ∀ i, aI V' 171 i = aI V 171 i := fun i => hF.2.2.2.1 _ _ (by omega)
  refine ⟨m1.fr hF (by omega) (by omega), c1.fr (fun i => hF.2.2.2.1 _ _ (by omega)), ht, ?_⟩
  unfold PiAt SnAt
  simp only [hf, a1]
  exact p1
theorem RM.frf (h : RM T V t X lo m c n Ss) (hF : FrF V V') : RM T V' t X lo m c n Ss := by
  obtain ⟨m1, c1, t1, p1⟩ := h
  have a1 : ∀ i, aI V' 171 i = aI V 171 i := fun i => hF.1.2.2.2.1 _ _ (by omega)
  refine ⟨m1.fr hF.1 (by omega) (by omega), c1.fr (fun i => hF.1.2.2.2.1 _ _ (by omega)), t1.fr hF, ?_⟩
  unfold PiAt SnAt
  simp only [hF.2 907 (by decide), a1]
  exact p1
theorem RC.draft (h : RC T V L D t X lo m c n K) (hF : Fr (fun y => D ≤ y ∧ y < D + 63) V V') : RC T V' L D t X lo m c n K := by
  obtain ⟨a1, a2, a3, a4, a5, a6, a7, a8, a9⟩ := h
  have hd := a1.2.2.2.2.2.2.2.2.2.2
  exact ⟨a1.fr hF, a2.fr hF (by omega) (by omega), a3.fr hF (by omega) (by omega), a4.fr hF, a5.fr hF (by omega) (by omega) (by omega), a6.fr a8.2.1.2.1 hF (fun y h1 h2 => by omega), a7.fr hF, a8.fr hF (fun a h1 h2 => by omega), LexAt.sh' a9 hF⟩
theorem j_write (h : Rel T V) (x : Int32) : Jn T (RS_write T V 0 x) (fun V1 => Mo_write T V1 166 x) := by
  have h0 := h
  obtain ⟨k9, L, D, t, X, lo, m, c, n, K, Ss, hC, hM, hH⟩ := h
  by_cases e1 : x < 32
  · exact ⟨-1, V, V, by rw [RS_write, if_pos e1], by
      show Mo_write T V 166 x = _
      rw [Mo_write, in_f T V (a := 32) (a' := 32) (b := 126) (b' := 126) rfl rfl (Or.inl e1), bd_s, if_pos rfl], h0⟩
  by_cases e2 : x ≤ 126
  · have e3 : ¬ x < 0 := fun z => e1 (Int32.lt_of_lt_of_le z (by decide))
    obtain ⟨k, hk, rfl⟩ := nI_of e3
    rw [show (126 : Int32) = nI 126 from rfl, nI_leI (by omega) (by omega)] at e2
    rw [show (32 : Int32) = nI 32 from rfl, nI_ltI (by omega) (by omega)] at e1
    have hp := hC.1
    obtain ⟨b1, b2, b3, b4, b5, b6, b7, b8, b9, d1, d2⟩ := hp
    have ht := hC.2.1
    have h200 := ht.2.2.2.2.2.2.1
    have hin : ∀ V, Mo_in T V (nI k).toInt64 32 126 = some 1 := fun V => in_t T V (a := nI 32) (a' := 32) (b := nI 126) (b' := 126) rfl rfl (by rw [nI_ltI (by omega) (by omega)]; omega) (by rw [nI_ltI (by omega) (by omega)]; omega)
    have hpre : RS_write T V 0 (nI k) = if decide (200 ≤ t.length) = true then some (-3, V) else bd (Le_put T V 1 (nI k)) (fun V15 => bd (ck T 1 (fR V15 800 0)) (fun r16 => bd (Le_size T V15 r16) (fun r21 => some (r21, V15)))) := by
      rw [RS_write, show (32 : Int32) = nI 32 from rfl, if_ltn (by omega) (by omega), if_neg (by omega), show (126 : Int32) = nI 126 from rfl, if_le (by omega) (by omega), if_pos (by omega), b3, ck_s ht.1, bd_s, Le_isFull_s ht, bd_s, if_bi, bd_s, i2c_n (by omega)]
    by_cases e4 : 200 ≤ t.length
    · refine ⟨-3, V, V, by rw [hpre, if_pos (decide_eq_true e4)], ?_, h0⟩
      show Mo_write T V 166 (nI k) = _
      rw [Mo_write, hin, bd_s, if_neg (by decide), hM.2.2.1.2.1, show (200 : Int32) = nI 200 from rfl, if_eqn (by omega) (by omega), if_pos (by omega)]
    · obtain ⟨V1, p1, p2, p3⟩ := Le_put_s ht k (by omega) (by omega)
      have hM1 := hM.fc (FC.of p2 (fun y hy => by omega))
      have hC1 := hC.text p2 p3
      obtain ⟨m1, c1, t1, q1⟩ := hM1
      obtain ⟨⟨a1, a2, a3⟩, -⟩ := m1.1
      obtain ⟨u1, u2, u3, u4⟩ := t1
      have hF : Fr (fun y => y = 166 ∨ y = 167) V1 (sI (wI V1 167 t.length (nI k)) 900 166 (nI (t.length + 1))) := (Fr.wI (P := fun y => y = 166 ∨ y = 167) _ _ _ _ (Or.inr rfl)).tr (Fr.sI _ _ _ _ (Or.inl rfl))
      refine ⟨nI (t.length + 1), V1, sI (wI V1 167 t.length (nI k)) 900 166 (nI (t.length + 1)), ?_, ?_, k9, L, D, t ++ [k], X, lo, m, c, n, K, Ss, hC1.fr hF (fun y hy => by omega), ?_, hH⟩
      · rw [hpre, if_neg (fun z => e4 (of_decide_eq_true z)), p1, bd_s, p2.1, b3, ck_s ht.1, bd_s, Le_size_s p3, bd_s, List.length_append]
        rfl
      · show Mo_write T V1 166 (nI k) = _
        rw [Mo_write, hin, bd_s, if_neg (by decide), u2, show (200 : Int32) = nI 200 from rfl, if_eqn (by omega) (by omega), if_neg (by omega), a3, ck_s a1, bd_s, a2, gd_s (inb_n (by omega) (by omega)), lt, cl_n (by omega), lt, fI_wI, u2, nI_1, fI_sI, if_pos ⟨rfl, rfl⟩]
      · refine RM.text ⟨m1, c1, ⟨u1, u2, u3, u4⟩, q1⟩ hF (by rw [fI_sI, if_neg (fun z => absurd z.1 (by decide))]; rfl) ⟨by rw [List.length_append]; show t.length + 1 ≤ 200; omega, by rw [fI_sI, if_pos ⟨rfl, rfl⟩, List.length_append]; rfl, fun j hj => ?_, fun y hy => ?_⟩
        · rw [List.length_append] at hj
          have hj : j < t.length + 1 := hj
          rw [aI_sI, aI_wI, ch_app1]
          by_cases e : j = t.length
          · rw [if_pos ⟨rfl, e⟩, if_neg (by omega), if_pos e]
          · rw [if_neg (fun z => e z.2), if_pos (by omega)]
            exact u3 j (by omega)
        · rcases List.mem_append.mp hy with z | z
          · exact u4 y z
          · rw [List.mem_singleton.mp z]; omega
  · exact ⟨-1, V, V, by rw [RS_write, if_neg e1, if_neg e2], by
      show Mo_write T V 166 x = _
      rw [Mo_write, in_f T V (a := 32) (a' := 32) (b := 126) (b' := 126) rfl rfl (Or.inr (Int32.not_le.mp e2)), bd_s, if_pos rfl], h0⟩
theorem j_wipe (h : Rel T V) : Jn T (RS_wipe T V 0) (fun V1 => Mo_wipe T V1 166) := by
  obtain ⟨k9, L, D, t, X, lo, m, c, n, K, Ss, hC, hM, hH⟩ := h
  have hp := hC.1
  obtain ⟨b1, b2, b3, b4, b5, b6, b7, b8, b9, d1, d2⟩ := hp
  have ht := hC.2.1
  obtain ⟨V1, p1, p2, p3⟩ := Le_clear_s ht.sh
  have hF1 : Fr (fun y => y = 1 ∨ y = 2) V V1 := p2.mo (fun y hy => Or.inl hy)
  have hM1 := hM.fc (FC.of hF1 (fun y hy => by omega))
  have hF : Fr (fun y => y = 166 ∨ y = 167) V1 (sI V1 900 166 0) := Fr.sI _ _ _ _ (Or.inl rfl)
  refine ⟨nI t.length, V1, sI V1 900 166 0, ?_, ?_, k9, L, D, [], X, lo, m, c, n, K, Ss, (hC.text hF1 p3).fr hF (fun y hy => by omega), hM1.text hF (by rw [fI_sI, if_neg (fun z => absurd z.1 (by decide))]) ⟨by decide, by rw [fI_sI, if_pos ⟨rfl, rfl⟩]; rfl, fun k hk => absurd hk (Nat.not_lt_zero k), fun y hy => by cases hy⟩, hH⟩
  · rw [RS_wipe, b3, ck_s ht.1, bd_s, Le_size_s ht, bd_s, bd_s, p1, bd_s]
  · show Mo_wipe T V1 166 = _
    rw [Mo_wipe, lt, lt, hM1.2.2.1.2.1]
theorem j_fault (h : Rel T V) : Jn T (RS_fault T V 0) (fun V1 => Mo_fault T V1 166) := by
  obtain ⟨k9, L, D, t, X, lo, m, c, n, K, Ss, hC, hM, hH⟩ := h
  have hp := hC.1
  obtain ⟨b1, b2, b3, b4, b5, b6, b7, b8, b9, d1, d2⟩ := hp
  have ht := hC.2.1
  have hD := hC.2.2.2.2.2.2.2.2
  obtain ⟨V1, p1, p2, p3⟩ := firstFault_s (by omega) hD ht
  have hM1 := hM.fc (FC.of p2 (fun y hy => by omega))
  obtain ⟨V2, q1, q2, q3⟩ := mfault_s hM1.1.1 hM1.2.2.1
  refine ⟨oI (pf t).1, V1, V2, ?_, q1, k9, L, D, t, X, lo, m, c, n, K, Ss, (hC.draft p2).fr q2.1 (fun y hy => by omega), hM1.frf q2, hH⟩
  rw [RS_fault, b3, ck_s ht.1, bd_s, d1, ck_s hD.1, bd_s, p1, bd2_s]
end TO
