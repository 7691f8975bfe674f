/-! ===== the two objects as they are made ===== -/
def iniC : Option (Tx × Vx) := RS_init (nT T0x 8 0) (zV T0x V0x) 0
def iniM : Option (Tx × Vx) := bd2 iniC (fun T V => Mo_init (nT T 9 0) (zV T V) (tp T))
def Tc : Tx := (iniC.getD (T0x, V0x)).1
def Vc : Vx := (iniC.getD (T0x, V0x)).2
def Ti : Tx := (iniM.getD (T0x, V0x)).1
def Vi : Vx := (iniM.getD (T0x, V0x)).2
theorem o_get {α β : Type} {o : Option (α × β)} (d : α × β) (h : o.isSome = true) : o = some ((o.getD d).1, (o.getD d).2) := by
  cases o with
  | none => cases h
  | some a => rfl
set_option maxRecDepth 100000 in
theorem ini_c : iniC.isSome = true ∧ tp Tc = 166 := by decide +kernel
set_option maxRecDepth 100000 in
theorem ini_m : iniM.isSome = true ∧ tp Ti = 182 := by decide +kernel
def X0 : Lex := ([(0, 0, [98, 101, 101]), (0, 1, [108, 101, 97, 102]), (0, 2, [101, 121, 101]), (0, 3, [99, 97, 110]), (1, 0, [110]), (1, 0, [116]), (1, 0, [98]), (1, 0, [108]), (2, 4, []), (2, 1, [])], [(4, [98, 101, 108, 101, 97, 102]), (1, [108, 101, 97, 102]), (4, [99, 97, 110, 111, 101]), (3, [99, 97, 110]), (5, [99, 97, 110, 116]), (2, [98, 101, 101]), (0, [98, 101, 101])])
theorem X0_wf : WFX X0 := by
  refine ⟨by decide, by decide, by decide +kernel, by decide +kernel, ?_⟩
  have h : ∀ w, w < nw X0 → ∀ v, v < nw X0 → wc X0 w = wc X0 v → wl X0 w = wl X0 v → w = v := by decide +kernel
  exact fun w v hw hv => h w hw v hv
set_option maxRecDepth 100000 in
theorem ini_pt : PtAt Ti Vi 40 103 := by
  unfold PtAt
  decide +kernel
set_option maxRecDepth 100000 in
theorem ini_tx : LetAt Ti Vi 1 2 200 [] := by
  unfold LetAt
  decide +kernel
set_option maxRecDepth 100000 in
theorem ini_row : RowAt Ti Vi 3 4 16 [] ∧ RowSh Ti Vi 5 6 9 := by
  unfold RowAt RowSh
  decide +kernel
set_option maxRecDepth 100000 in
theorem ini_hi : HiAt Ti Vi 0 (fun _ => (0, 0)) := by
  unfold HiAt HiSh
  decide +kernel
set_option maxRecDepth 100000 in
theorem ini_sc : ScSh Ti Vi ∧ fI Vi 505 10 = 0 := by
  unfold ScSh RowSh
  decide +kernel
set_option maxRecDepth 100000 in
theorem ini_rd : RdSh Ti Vi := by
  unfold RdSh
  decide +kernel
set_option maxRecDepth 100000 in
theorem ini_a40 : kd Ti 40 = 2 ∧ fR Vi 200 40 = some (40 + 1) ∧ kd Ti (40 + 1) = 14 ∧ ln Ti (40 + 1) = 12 ∧ fR Vi 201 40 = some (40 + 2) ∧ kd Ti (40 + 2) = 15 ∧ ln Ti (40 + 2) = 8 := by decide +kernel
set_option maxRecDepth 100000 in
theorem ini_b40 : ∀ s, s < 12 → aR Vi (40 + 1) s = some (40 + 3 + 3 * s) ∧ kd Ti (40 + 3 + 3 * s) = 6 ∧ fR Vi 600 (40 + 3 + 3 * s) = some (40 + 4 + 3 * s) ∧ LetSh Ti Vi (40 + 4 + 3 * s) (40 + 5 + 3 * s) 4 := by
  unfold LetSh
  decide +kernel
set_option maxRecDepth 100000 in
theorem ini_c40 : ∀ w, w < 8 → aR Vi (40 + 2) w = some (40 + 39 + 3 * w) ∧ kd Ti (40 + 39 + 3 * w) = 7 ∧ fR Vi 700 (40 + 39 + 3 * w) = some (40 + 40 + 3 * w) ∧ LetSh Ti Vi (40 + 40 + 3 * w) (40 + 41 + 3 * w) 8 := by
  unfold LetSh
  decide +kernel
theorem ini_l40 : LexSh Ti Vi 40 := ⟨ini_a40.1, ini_a40.2.1, ini_a40.2.2.1, ini_a40.2.2.2.1, ini_a40.2.2.2.2.1, ini_a40.2.2.2.2.2.1, ini_a40.2.2.2.2.2.2, ini_b40, ini_c40⟩
set_option maxRecDepth 100000 in
theorem ini_a103 : kd Ti 103 = 2 ∧ fR Vi 200 103 = some (103 + 1) ∧ kd Ti (103 + 1) = 14 ∧ ln Ti (103 + 1) = 12 ∧ fR Vi 201 103 = some (103 + 2) ∧ kd Ti (103 + 2) = 15 ∧ ln Ti (103 + 2) = 8 := by decide +kernel
set_option maxRecDepth 100000 in
theorem ini_b103 : ∀ s, s < 12 → aR Vi (103 + 1) s = some (103 + 3 + 3 * s) ∧ kd Ti (103 + 3 + 3 * s) = 6 ∧ fR Vi 600 (103 + 3 + 3 * s) = some (103 + 4 + 3 * s) ∧ LetSh Ti Vi (103 + 4 + 3 * s) (103 + 5 + 3 * s) 4 := by
  unfold LetSh
  decide +kernel
set_option maxRecDepth 100000 in
theorem ini_c103 : ∀ w, w < 8 → aR Vi (103 + 2) w = some (103 + 39 + 3 * w) ∧ kd Ti (103 + 39 + 3 * w) = 7 ∧ fR Vi 700 (103 + 39 + 3 * w) = some (103 + 40 + 3 * w) ∧ LetSh Ti Vi (103 + 40 + 3 * w) (103 + 41 + 3 * w) 8 := by
  unfold LetSh
  decide +kernel
theorem ini_l103 : LexSh Ti Vi 103 := ⟨ini_a103.1, ini_a103.2.1, ini_a103.2.2.1, ini_a103.2.2.2.1, ini_a103.2.2.2.2.1, ini_a103.2.2.2.2.2.1, ini_a103.2.2.2.2.2.2, ini_b103, ini_c103⟩
set_option maxRecDepth 100000 in
theorem ini_lex : fI Vi 202 40 = nI (ns X0) ∧ fI Vi 203 40 = nI (nw X0) ∧ fI Vi 204 40 = bi true ∧
  (∀ s, s < ns X0 → fI Vi 601 (40 + 3 + 3 * s) = nI (sk X0 s) ∧ fI Vi 602 (40 + 3 + 3 * s) = nI (sc X0 s) ∧ fI Vi 603 (40 + 3 + 3 * s) = bi (stM 0 s) ∧ LetAt Ti Vi (40 + 4 + 3 * s) (40 + 5 + 3 * s) 4 (su X0 s)) ∧
  (∀ w, w < nw X0 → fI Vi 701 (40 + 39 + 3 * w) = nI (wc X0 w) ∧ LetAt Ti Vi (40 + 40 + 3 * w) (40 + 41 + 3 * w) 8 (wl X0 w)) := by
  unfold LetAt
  decide +kernel
set_option maxRecDepth 100000 in
theorem ini_mo : MoSh Ti Vi ∧ kd Ti 166 = 9 := by
  unfold MoSh
  decide +kernel
set_option maxRecDepth 100000 in
theorem ini_told : ToldAt Vi 168 X0 := by
  unfold ToldAt
  decide +kernel
set_option maxRecDepth 100000 in
theorem ini_mw : aI Vi 170 0 = bi true ∧ aI Vi 170 1 = nI 0 ∧ aI Vi 170 2 = nI 0 ∧ fI Vi 900 166 = nI 0 ∧ fI Vi 907 166 = nI 0 ∧ (∀ w, w < nw X0 → ∀ x ∈ wl X0 w, x < 128) ∧ ∀ s, s < ns X0 → ∀ x ∈ su X0 s, x < 128 := by decide +kernel
theorem ini_rel : Rel Ti Vi := by
  have hsn : SnOk X0 (true, 0, []) := ⟨Nat.two_pow_pos _, Nat.zero_le 16, fun k (hk : k < 0) => absurd hk (Nat.not_lt_zero k)⟩
  obtain ⟨l1, l2, l3, l4, l5⟩ := ini_lex
  obtain ⟨m1, m2, m3, m4, m5, m6, m7⟩ := ini_mw
  exact ⟨ini_mo.2, 40, 103, [], X0, true, 0, [], 0, fun _ => (0, 0), fun _ => (true, 0, []), ⟨ini_pt, ini_tx, ini_row.1, ini_row.2, ini_hi, ⟨ini_sc.1, Or.inl ini_sc.2⟩, ini_rd, ⟨ini_l40, X0_wf, l1, l2, l3, l4, l5⟩, ini_l103⟩, ⟨⟨ini_mo.1, X0_wf, ini_told, m1, m2, by decide, m6, m7⟩, ⟨by decide, m3, fun k hk => absurd hk (Nat.not_lt_zero k)⟩, ⟨by decide, m4, fun k hk => absurd hk (Nat.not_lt_zero k), fun x hx => by cases hx⟩, ⟨by omega, m5, fun i hi => absurd hi (Nat.not_lt_zero i)⟩⟩, CHn.new hsn _⟩
theorem pure_main (xs : Nat → Int32) (Ln : Nat) (hL : Ln ≤ 1536) : Lw_law xs Ln T0x V0x = some 1 := by
  have hc := o_get (T0x, V0x) ini_c.1
  have hm := o_get (T0x, V0x) ini_m.1
  have e1 : iniC = some (Tc, Vc) := hc
  have e2 : iniM = some (Ti, Vi) := hm
  have e1' : RS_init (nT T0x 8 0) (zV T0x V0x) 0 = some (Tc, Vc) := e1
  have e2' : Mo_init (nT Tc 9 0) (zV Tc Vc) (tp Tc) = some (Ti, Vi) := by
    rw [← e2, iniM, e1, bd2_s]
  have t1 : tp Tc = 166 := ini_c.2
  have t2 : tp Ti = 182 := ini_m.2
  rw [t1] at e2'
  have q1 : tp (nT T0x 8 0) = 1 := rfl
  have q2 : tp (nT Tc 9 0) = 167 := by
    show tp Tc + 1 = 167
    rw [t1]
  rw [Lw_law, lt, lt, lt, show tp T0x = 0 from rfl, e1', bd2_s, gd_s (by rw [t1, q1]; rfl), lt, lt, lt, t1, e2', bd2_s, gd_s (by rw [t2, q2]; rfl)]
  exact law_l hL ini_pt.1 ini_mo.2 512 FU 0 Vi (by omega) (by omega) (by rw [← FU_big]; omega) ini_rel
