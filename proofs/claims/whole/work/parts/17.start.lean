def T0x : Tx := (fun _ => 99, fun _ => 0, 0)
def V0x : Vx := (fun _ _ => 0, fun _ _ => none, fun _ _ => 0, fun _ _ => 0, fun _ _ => none)
theorem arr_prim {s : State} {ty : FieldType} {args : Array Value} (h : (Cond.arrayClass ty).before args s = true) : ∃ cA, ArrOfT s cA ty ∧ s.vm.findClass ("[" ++ ty.toString) = some cA := by
  obtain ⟨c, k, comp, h1, h2, h3⟩ := Cond.arrayClass_spec (args := args) (first := s) (o := none) (s := s) (idx := []) h
  exact ⟨c, fun n z => ⟨(fun k h => by cases h), k, h2, comp, h3⟩, h1⟩
theorem arr_obj {s : State} {C : String} {args : Array Value} (h : (Cond.arrayOver (.object C)).before args s = true) : ∃ cA, ArrOfT s cA (.object C) ∧ va_RA s cA (.object C) := by
  obtain ⟨comp, c, k, h1, h2, h3, h4, h5⟩ := Cond.arrayOver_spec (args := args) (first := s) (o := none) (s := s) (idx := []) h
  exact ⟨c, fun n z => ⟨(fun k h => by cases h), k, h3, comp, h4⟩, k, comp, h3, h4, h1, h5⟩
theorem el_all : (List.range 106).all (fun j => decide ((Cond.eq (.elem (.field (.string "RebusSigns" 235) "java/lang/String" "value" "[B") (.int (Int32.ofNat j))) (.int (ftb.getD j 0))) ∈ flatC (Jvm.Cond.and given_1 narrow_1))) = true := by decide +kernel
set_option maxHeartbeats 4000000 in
set_option maxRecDepth 100000 in
theorem SF_start {s : State} {bs : Nat} (hts : ∀ w ∈ lw_tbl, w.before #[Value.ref bs] s = true) (hgv : (Jvm.Cond.and given_1 narrow_1).before #[Value.ref bs] s = true) : ∃ adK adV, SF s.heap.size adK adV s s.heap := by
  have hs := flat_of_before _ hgv
  have hA : ∀ a : Nat, a < s.heap.size → ¬ (fun q : Nat => s.heap.size ≤ q) a := fun a h => Nat.not_le.mpr h
  obtain ⟨adK, adV, h1, h2⟩ := vk_Sof (args := #[Value.ref bs]) (s := s) (N := 1) (tm := fun _ => .string "RebusSigns" 235) (len := [106]) (byt := [ftb]) (A := fun q : Nat => s.heap.size ≤ q)
    (fun i hi => by rcases (show i = 0 by omega) with rfl; decide)
    (fun i hi => hs _ (by decide +kernel)) (fun i hi => hs _ (by decide +kernel)) (fun i hi => hs _ (by decide +kernel))
    (fun i hi => by rcases (show i = 0 by omega) with rfl; exact hs _ (by decide +kernel))
    (fun i hi j hj => by
      rcases (show i = 0 by omega) with rfl
      exact hs _ (of_decide_eq_true (List.all_eq_true.mp el_all j (List.mem_range.mpr hj))))
    (fun i j hi hj h => absurd (show i = j by omega) h) hA
  have e0 := h2 0 (by decide)
  refine ⟨adK 0, adV 0, ⟨vk_R.of (hts _ (List.mem_of_getElem? (i := 181) (by decide +kernel))) e0, ⟨fun i hi => ?_, fun i j hi hj _ => by omega⟩, va_Zof (hts _ (List.mem_of_getElem? (i := 191) (by decide +kernel))) (hts _ (List.mem_of_getElem? (i := 60) (by decide +kernel))) (va_eqt (hs _ (by decide +kernel))) hA, va_Zqof (hts _ (List.mem_of_getElem? (i := 207) (by decide +kernel))) (hts _ (List.mem_of_getElem? (i := 62) (by decide +kernel))) (hs _ (by decide +kernel)) hA⟩⟩
  rcases (show i = 0 by omega) with rfl
  exact h1.1 0 (by decide)
set_option maxHeartbeats 4000000 in
set_option maxRecDepth 100000 in
theorem whole_open (hpure : ∀ (xs : Nat → Int32) (Ln : Nat), Ln ≤ 1536 → Lw_law xs Ln T0x V0x = some 1) {p : Program} {e : Env} {s : State} {m : MethodId} {below : List Frame} {meth : Method} {c : Code} (l : Launch) {b L : Nat} {xs : Nat → Int32} (hL : L ≤ 1536) (C0 : lw_At p s m meth c b L xs) : W p l e room_1 s m #[Value.ref b] below meth c s.heap [] 0 0 (lw_Z below #[Value.ref b] s) (entryFrame m ([Value.ref b] : List Value).toArray 4) := by
  obtain ⟨hx, hb, hr, hml, hown, hts, hX, hbl, hlocks, hgv⟩ := id C0
  have hTB : TB s := TB.of hts
  obtain ⟨c0, i0, hK0⟩ := u_known (C := RX0) (T := TX0) (N := 3) (n := 3) (args := #[Value.ref b]) (uw_0 hTB) (fun _ h => h) (TB.w 112 (by decide +kernel) rfl hTB)
  obtain ⟨c1, i1, hK1⟩ := u_known (C := RX1) (T := TX1) (N := 2) (n := 2) (args := #[Value.ref b]) (uw_1 hTB) (fun _ h => h) (TB.w 80 (by decide +kernel) rfl hTB)
  obtain ⟨c2, i2, hK2⟩ := u_known (C := RX2) (T := TX2) (N := 5) (n := 5) (args := #[Value.ref b]) (uw_2 hTB) (fun _ h => h) (TB.w 235 (by decide +kernel) rfl hTB)
  obtain ⟨c3, i3, hK3⟩ := u_known (C := RX4) (T := TX4) (N := 5) (n := 5) (args := #[Value.ref b]) (uw_3 hTB) (fun _ h => h) (TB.w 157 (by decide +kernel) rfl hTB)
  obtain ⟨c4, i4, hK4⟩ := u_known (C := RX5) (T := TX5) (N := 2) (n := 2) (args := #[Value.ref b]) (uw_4 hTB) (fun _ h => h) (TB.w 97 (by decide +kernel) rfl hTB)
  obtain ⟨c5, i5, hK5⟩ := u_known (C := RX6) (T := TX6) (N := 6) (n := 6) (args := #[Value.ref b]) (uw_5 hTB) (fun _ h => h) (TB.w 128 (by decide +kernel) rfl hTB)
  obtain ⟨c6, i6, hK6⟩ := u_known (C := RX7) (T := TX7) (N := 4) (n := 4) (args := #[Value.ref b]) (uw_6 hTB) (fun _ h => h) (TB.w 244 (by decide +kernel) rfl hTB)
  obtain ⟨c7, i7, hK7⟩ := u_known (C := RX8) (T := TX8) (N := 2) (n := 2) (args := #[Value.ref b]) (uw_7 hTB) (fun _ h => h) (TB.w 279 (by decide +kernel) rfl hTB)
  obtain ⟨c8, i8, hK8⟩ := u_known (C := RX9) (T := TX9) (N := 8) (n := 8) (args := #[Value.ref b]) (uw_8 hTB) (fun _ h => h) (TB.w 72 (by decide +kernel) rfl hTB)
  obtain ⟨c9, i9, hK9⟩ := u_known (C := RX10) (T := TX10) (N := 20) (n := 20) (args := #[Value.ref b]) (uw_9 hTB) (fun _ h => h) (TB.w 757 (by decide +kernel) rfl hTB)
  obtain ⟨dC, dI, hKc⟩ : ∃ (dC : Nat → ClassId) (dI : Nat → Nat → Nat), ∀ (k : Nat) (q : vw_C), vwCl[k]? = some q → u_Kn s q.1 q.2.1 q.2.2 (dC k) (dI k) := by
    refine ⟨fun k => if k = 0 then c0 else if k = 1 then c1 else if k = 2 then c2 else if k = 3 then c3 else if k = 4 then c4 else if k = 5 then c5 else if k = 6 then c6 else if k = 7 then c7 else if k = 8 then c8 else c9, fun k => if k = 0 then i0 else if k = 1 then i1 else if k = 2 then i2 else if k = 3 then i3 else if k = 4 then i4 else if k = 5 then i5 else if k = 6 then i6 else if k = 7 then i7 else if k = 8 then i8 else i9, ?_⟩
    intro k q hq
    match k, hq with
    | 0, hq => cases hq; exact hK0
    | 1, hq => cases hq; exact hK1
    | 2, hq => cases hq; exact hK2
    | 3, hq => cases hq; exact hK3
    | 4, hq => cases hq; exact hK4
    | 5, hq => cases hq; exact hK5
    | 6, hq => cases hq; exact hK6
    | 7, hq => cases hq; exact hK7
    | 8, hq => cases hq; exact hK8
    | 9, hq => cases hq; exact hK9
    | k + 10, hq => simp [vwCl] at hq
  obtain ⟨a10, r10, s10⟩ := arr_prim (ty := .char) (args := #[Value.ref b]) (TB.w 95 (by decide +kernel) rfl hTB)
  obtain ⟨a11, r11, s11⟩ := arr_prim (ty := .int) (args := #[Value.ref b]) (TB.w 110 (by decide +kernel) rfl hTB)
  obtain ⟨a12, r12, s12⟩ := arr_prim (ty := .long) (args := #[Value.ref b]) (TB.w 155 (by decide +kernel) rfl hTB)
  obtain ⟨a13, r13, s13⟩ := arr_obj (C := "RebusSigns$Row") (args := #[Value.ref b]) (TB.w 134 (by decide +kernel) rfl hTB)
  obtain ⟨a14, r14, s14⟩ := arr_obj (C := "RebusSigns$Sign") (args := #[Value.ref b]) (TB.w 241 (by decide +kernel) rfl hTB)
  obtain ⟨a15, r15, s15⟩ := arr_obj (C := "RebusSigns$Word") (args := #[Value.ref b]) (TB.w 243 (by decide +kernel) rfl hTB)
  obtain ⟨ca, hca⟩ : ∃ ca : Nat → ClassId, ca 10 = a10 ∧ ca 11 = a11 ∧ ca 12 = a12 ∧ ca 13 = a13 ∧ ca 14 = a14 ∧ ca 15 = a15 := ⟨fun k => if k = 10 then a10 else if k = 11 then a11 else if k = 12 then a12 else if k = 13 then a13 else if k = 14 then a14 else a15, rfl, rfl, rfl, rfl, rfl, rfl⟩
  obtain ⟨rfl, rfl, rfl, rfl, rfl, rfl⟩ := hca
  have hK : va_K (dC, dI) vwCl (tyl ca) s := by
    refine ⟨hKc, fun k q hq => ?_⟩
    match k, hq with
    | 0, hq => cases hq; exact ⟨r10, s10⟩
    | 1, hq => cases hq; exact ⟨r11, s11⟩
    | 2, hq => cases hq; exact ⟨r12, s12⟩
    | 3, hq => cases hq; exact ⟨r13, s13⟩
    | 4, hq => cases hq; exact ⟨r14, s14⟩
    | 5, hq => cases hq; exact ⟨r15, s15⟩
    | k + 6, hq => simp [tyl] at hq
  obtain ⟨adK, adV, SX⟩ := SF_start hts hgv
  have hl := lv_entry ([.ref b]) (n := 4) (Nat.le_of_ble_eq_true rfl)
  rw [lg_entry_eq]
  have G : GX p s m meth c code 4 ret RL meth.name (dC, dI) ca s.heap.size := ⟨hx, hb, hml, hown, hTB, hK, hr, hlocks, Nat.le_refl _, rfl⟩
  refine w_law (T := T0x) (V := V0x) G SX hX hbl rfl (hpure xs L hL) s.heap [] _ ⟨fun k q h => ?_, rfl, fun _ _ => rfl, va_S.rf⟩ hl
  exact absurd (cs_get h).1 (Nat.not_lt_zero _)
