/-! ===== the tables' words, kept as one word of the state ===== -/
def nestW : Cond → Bool
  | .fieldLinkNest _ _ _ _ _ _ => true
  | .methodLinkNest _ _ _ _ => true
  | .arrayOver (.object _) => true
  | _ => false
def TB (U : State) : Prop := ∀ w ∈ lw_tbl, (goodWord w || nestW w) = true → va_Nw w U
theorem TB.warm {s U : State} (hW : s.WarmedH U.vm) (h : TB s) : TB U := by
  intro w hw hg
  have h1 := h w hw hg
  by_cases hgw : goodWord w = true
  · exact word_at hW (good_of_word hgw) h1
  · have hn : nestW w = true := by
      simp only [Bool.or_eq_true] at hg
      exact hg.resolve_left hgw
    cases w with
    | fieldLinkNest a i b n d hh => exact va_Nw.warmF hW h1
    | methodLinkNest a i x hh => exact va_Nw.warmM hW h1
    | arrayOver ty =>
      cases ty with
      | object C => exact va_AO.moved hW.alike h1
      | _ => cases hn
    | _ => cases hn
theorem TB.of {s : State} {args : Array Value} (h : ∀ w ∈ lw_tbl, w.before args s = true) : TB s := by
  intro w hw hg
  have h1 := h w hw
  by_cases hgw : goodWord w = true
  · exact word_at (State.WarmedH.refl s) (good_of_word hgw) h1
  · have hn : nestW w = true := by
      simp only [Bool.or_eq_true] at hg
      exact hg.resolve_left hgw
    cases w with
    | fieldLinkNest a i b n d hh => exact va_tabs rfl rfl h1
    | methodLinkNest a i x hh => exact va_tabs rfl rfl h1
    | arrayOver ty =>
      cases ty with
      | object C => exact h1
      | _ => cases hn
    | _ => cases hn
theorem TB.use {s : State} {args : Array Value} (h : TB s) {w : Cond} (hw : w ∈ lw_tbl) (hg : (goodWord w || nestW w) = true) : w.before args s = true := by
  have h1 := h w hw hg
  by_cases hgw : goodWord w = true
  · exact word_at (State.WarmedH.refl s) (good_of_word hgw) h1
  · have hn : nestW w = true := by
      simp only [Bool.or_eq_true] at hg
      exact hg.resolve_left hgw
    cases w with
    | fieldLinkNest a i b n d hh => exact va_tabs rfl rfl h1
    | methodLinkNest a i x hh => exact va_tabs rfl rfl h1
    | arrayOver ty =>
      cases ty with
      | object C => exact h1
      | _ => cases hn
    | _ => cases hn
theorem TB.w {s : State} {args : Array Value} {w : Cond} (i : Nat) (hw : lw_tbl[i]? = some w) (hg : (goodWord w || nestW w) = true) (h : TB s) : w.before args s = true := h.use (List.mem_of_getElem? hw) hg
theorem TB.list {s : State} {args : Array Value} {ws : List Cond} (ps : List Nat) (hw : ws = ps.filterMap (fun i => lw_tbl[i]?)) (hg : ws.all (fun w => goodWord w || nestW w) = true) (h : TB s) : ∀ w ∈ ws, w.before args s = true := by
  intro w hm
  have hg1 := List.all_eq_true.mp hg w hm
  rw [hw] at hm
  obtain ⟨i, -, hi⟩ := List.mem_filterMap.mp hm
  exact h.use (List.mem_of_getElem? hi) hg1
/-! ===== what a method's walk stands on; its world; the judgement ===== -/
def GX (p : Program) (s : State) (m : MethodId) (meth : Method) (c : Code) (cc : ByteArray) (nL : Nat) (ret : Option FieldType) (own mn : String) (D : va_G) (ca : Nat → ClassId) (b : Nat) : Prop :=
  p.tables.exec = Jvm.exec ∧ c.code = cc ∧ c.maxLocals = nL ∧ s.vm.findClass own = some m.cls ∧ TB s ∧ va_K D vwCl (tyl ca) s ∧ meth.sig.returnType = ret ∧ meth.locks = false ∧ b ≤ s.heap.size ∧ meth.name = mn
def GW (D : va_G) (ca : Nat → ClassId) (b : Nat) (T : Tx) (V : Vx) (H0 : Heap) (cells : Nat) (H : Heap) (locs : List Loc) : Prop :=
  va_P D vwCl (cs b ca T V) H ∧ H0.size + cells = b + tp T ∧ (∀ a, tp T ≤ a → kd T a = 99) ∧ va_S (fun q : Nat => b ≤ q) H0 H locs
def WG (p : Program) (l : Launch) (e : Env) (R : Room) (s : State) (m : MethodId) (args : Array Value) (below : List Frame) (meth : Method) (c : Code) (D : va_G) (ca : Nat → ClassId) (b nL : Nat) (Q : State → Prop) (cells slots : Nat) (T : Tx) (V : Vx) (pc : Nat) (L : List (Nat × Value)) (st : List Value) : Prop :=
  ∀ (H : Heap) (locs : List Loc) (ls : Array Slot), GW D ca b T V s.heap cells H locs → lv_has ls nL L → W p l e R s m args below meth c H locs cells slots Q (F0 m pc ls st)
def CI (c : Nat) (C : String) (T : u_T) (N : Nat) (ty : Nat → FieldType) : Prop := vwCl[c]? = some (C, T, N) ∧ nf c = N ∧ c < 10 ∧ (∀ k, k < N → parseFieldDescriptor (T k).2.2.1 = some (ty k)) ∧ (∀ a, a < N → ∀ b, b < N → a ≠ b → (T a).2.1 ≠ (T b).2.1)
theorem ci_0 : CI 0 RX0 TX0 3 tyX0 := ⟨rfl, rfl, by decide, tyX0_ok, nmX0⟩
theorem ci_1 : CI 1 RX1 TX1 2 tyX1 := ⟨rfl, rfl, by decide, tyX1_ok, nmX1⟩
theorem ci_2 : CI 2 RX2 TX2 5 tyX2 := ⟨rfl, rfl, by decide, tyX2_ok, nmX2⟩
theorem ci_3 : CI 3 RX4 TX4 5 tyX4 := ⟨rfl, rfl, by decide, tyX4_ok, nmX4⟩
theorem ci_4 : CI 4 RX5 TX5 2 tyX5 := ⟨rfl, rfl, by decide, tyX5_ok, nmX5⟩
theorem ci_5 : CI 5 RX6 TX6 6 tyX6 := ⟨rfl, rfl, by decide, tyX6_ok, nmX6⟩
theorem ci_6 : CI 6 RX7 TX7 4 tyX7 := ⟨rfl, rfl, by decide, tyX7_ok, nmX7⟩
theorem ci_7 : CI 7 RX8 TX8 2 tyX8 := ⟨rfl, rfl, by decide, tyX8_ok, nmX8⟩
theorem ci_8 : CI 8 RX9 TX9 8 tyX9 := ⟨rfl, rfl, by decide, tyX9_ok, nmX9⟩
theorem ci_9 : CI 9 RX10 TX10 20 tyX10 := ⟨rfl, rfl, by decide, tyX10_ok, nmX10⟩
theorem tp_lt {D : va_G} {ca : Nat → ClassId} {b : Nat} {T : Tx} {V : Vx} {H0 H : Heap} {cells : Nat} {locs : List Loc} (h : GW D ca b T V H0 cells H locs) {a k : Nat} (hk : kd T a = k) (hk9 : k < 20) : a < tp T := by
  rcases Nat.lt_or_ge a (tp T) with q | q
  · exact q
  · have := h.2.2.1 a q
    omega
section RW
variable {p : Program} {l : Launch} {e : Env} {R : Room} {s : State} {m : MethodId} {args : Array Value} {below : List Frame} {meth : Method} {c : Code} {D : va_G} {ca : Nat → ClassId} {b nL : Nat} {Q : State → Prop} {cells slots : Nat} {T : Tx} {V : Vx} {pc : Nat} {L : List (Nat × Value)} {st : List Value} {cc : ByteArray} {ret : Option FieldType} {own mn : String}
theorem g_iconst (G : GX p s m meth c cc nL ret own mn D ca b) {n : Int} {v : Int32} (hdg : decode cc pc = .ok (.iconst n, 1)) (hv : Int32.ofInt n = v) (k : WG p l e R s m args below meth c D ca b nL Q cells slots T V (pc + 1) L (.int v :: st)) : WG p l e R s m args below meth c D ca b nL Q cells slots T V pc L st :=
  fun H locs ls hW hl => lv_iconst G.1 G.2.1 hdg hv (k H locs ls hW hl)
theorem g_bipush (G : GX p s m meth c cc nL ret own mn D ca b) {n : Int} {v : Int32} (hdg : decode cc pc = .ok (.bipush n, 2)) (hv : (Int8.ofInt n).toInt32 = v) (k : WG p l e R s m args below meth c D ca b nL Q cells slots T V (pc + 2) L (.int v :: st)) : WG p l e R s m args below meth c D ca b nL Q cells slots T V pc L st :=
  fun H locs ls hW hl => lv_bipush G.1 G.2.1 hdg hv (k H locs ls hW hl)
theorem g_sipush (G : GX p s m meth c cc nL ret own mn D ca b) {n : Int} {v : Int32} (hdg : decode cc pc = .ok (.sipush n, 3)) (hv : (Int16.ofInt n).toInt32 = v) (k : WG p l e R s m args below meth c D ca b nL Q cells slots T V (pc + 3) L (.int v :: st)) : WG p l e R s m args below meth c D ca b nL Q cells slots T V pc L st :=
  fun H locs ls hW hl => lv_sipush G.1 G.2.1 hdg hv (k H locs ls hW hl)
theorem g_lconst (G : GX p s m meth c cc nL ret own mn D ca b) {n : Fin 2} {v : Int64} (hdg : decode cc pc = .ok (.lconst n, 1)) (hv : Int64.ofNat (n : Nat) = v) (k : WG p l e R s m args below meth c D ca b nL Q cells slots T V (pc + 1) L (.long v :: st)) : WG p l e R s m args below meth c D ca b nL Q cells slots T V pc L st :=
  fun H locs ls hW hl => lv_lconst G.1 G.2.1 hdg hv (k H locs ls hW hl)
theorem g_ldc (G : GX p s m meth c cc nL ret own mn D ca b) {index : Nat} {v : Int32} (hconst : (Jvm.Cond.constant own index v).before args s = true) (hdg : decode cc pc = .ok (.ldc index, 2)) (k : WG p l e R s m args below meth c D ca b nL Q cells slots T V (pc + 2) L (.int v :: st)) : WG p l e R s m args below meth c D ca b nL Q cells slots T V pc L st :=
  fun H locs ls hW hl => lv_ldc G.1 G.2.1 G.2.2.2.1 hconst hdg (k H locs ls hW hl)
theorem g_ldcw (G : GX p s m meth c cc nL ret own mn D ca b) {index : Nat} {v : Int32} (hconst : (Jvm.Cond.constant own index v).before args s = true) (hdg : decode cc pc = .ok (.ldc_w index, 3)) (k : WG p l e R s m args below meth c D ca b nL Q cells slots T V (pc + 3) L (.int v :: st)) : WG p l e R s m args below meth c D ca b nL Q cells slots T V pc L st :=
  fun H locs ls hW hl => lv_ldcw G.1 G.2.1 G.2.2.2.1 hconst hdg (k H locs ls hW hl)
theorem g_ldc2 (G : GX p s m meth c cc nL ret own mn D ca b) {index : Nat} {v : Int64} (hconst : (Jvm.Cond.constantLong own index v).before args s = true) (hdg : decode cc pc = .ok (.ldc2_w index, 3)) (k : WG p l e R s m args below meth c D ca b nL Q cells slots T V (pc + 3) L (.long v :: st)) : WG p l e R s m args below meth c D ca b nL Q cells slots T V pc L st :=
  fun H locs ls hW hl => lv_ldc2 G.1 G.2.1 G.2.2.2.1 hconst hdg (k H locs ls hW hl)
theorem g_null (G : GX p s m meth c cc nL ret own mn D ca b) (hdg : decode cc pc = .ok (.aconst_null, 1)) (k : WG p l e R s m args below meth c D ca b nL Q cells slots T V (pc + 1) L (rv b none :: st)) : WG p l e R s m args below meth c D ca b nL Q cells slots T V pc L st :=
  fun H locs ls hW hl => lv_null G.1 G.2.1 hdg (k H locs ls hW hl)
theorem g_iload_n (G : GX p s m meth c cc nL ret own mn D ca b) {k : Fin 4} {x : Int32} (hdg : decode cc pc = .ok (.iload_n k, 1)) (j : Nat) (hl : L[j]? = some ((k : Nat), .int x)) (kk : WG p l e R s m args below meth c D ca b nL Q cells slots T V (pc + 1) L (.int x :: st)) : WG p l e R s m args below meth c D ca b nL Q cells slots T V pc L st :=
  fun H locs ls hW h => lv_iload_n G.1 G.2.1 hdg rfl (lv_at h j hl) (kk H locs ls hW h)
theorem g_iload (G : GX p s m meth c cc nL ret own mn D ca b) {i : Nat} {x : Int32} (hdg : decode cc pc = .ok (.iload i, 2)) (j : Nat) (hl : L[j]? = some (i, .int x)) (kk : WG p l e R s m args below meth c D ca b nL Q cells slots T V (pc + 2) L (.int x :: st)) : WG p l e R s m args below meth c D ca b nL Q cells slots T V pc L st :=
  fun H locs ls hW h => lv_iload G.1 G.2.1 hdg (lv_at h j hl) (kk H locs ls hW h)
theorem g_lload_n (G : GX p s m meth c cc nL ret own mn D ca b) {k : Fin 4} {x : Int64} (hdg : decode cc pc = .ok (.lload_n k, 1)) (j : Nat) (hl : L[j]? = some ((k : Nat), .long x)) (kk : WG p l e R s m args below meth c D ca b nL Q cells slots T V (pc + 1) L (.long x :: st)) : WG p l e R s m args below meth c D ca b nL Q cells slots T V pc L st :=
  fun H locs ls hW h => lv_lload_n G.1 G.2.1 hdg rfl (lv_at h j hl) (kk H locs ls hW h)
theorem g_lload (G : GX p s m meth c cc nL ret own mn D ca b) {i : Nat} {x : Int64} (hdg : decode cc pc = .ok (.lload i, 2)) (j : Nat) (hl : L[j]? = some (i, .long x)) (kk : WG p l e R s m args below meth c D ca b nL Q cells slots T V (pc + 2) L (.long x :: st)) : WG p l e R s m args below meth c D ca b nL Q cells slots T V pc L st :=
  fun H locs ls hW h => lv_lload G.1 G.2.1 hdg (lv_at h j hl) (kk H locs ls hW h)
theorem g_aload_n (G : GX p s m meth c cc nL ret own mn D ca b) {k : Fin 4} {o : Option Nat} (hdg : decode cc pc = .ok (.aload_n k, 1)) (j : Nat) (hl : L[j]? = some ((k : Nat), rv b o)) (kk : WG p l e R s m args below meth c D ca b nL Q cells slots T V (pc + 1) L (rv b o :: st)) : WG p l e R s m args below meth c D ca b nL Q cells slots T V pc L st := by
  intro H locs ls hW h
  cases o with
  | none => exact lv_aload_nN G.1 G.2.1 hdg rfl (lv_at h j hl) (kk H locs ls hW h)
  | some a => exact lv_aload_n G.1 G.2.1 hdg rfl (lv_at h j hl) (kk H locs ls hW h)
theorem g_aload (G : GX p s m meth c cc nL ret own mn D ca b) {i : Nat} {o : Option Nat} (hdg : decode cc pc = .ok (.aload i, 2)) (j : Nat) (hl : L[j]? = some (i, rv b o)) (kk : WG p l e R s m args below meth c D ca b nL Q cells slots T V (pc + 2) L (rv b o :: st)) : WG p l e R s m args below meth c D ca b nL Q cells slots T V pc L st := by
  intro H locs ls hW h
  cases o with
  | none => exact lv_aloadN G.1 G.2.1 hdg (lv_at h j hl) (kk H locs ls hW h)
  | some a => exact lv_aload G.1 G.2.1 hdg (lv_at h j hl) (kk H locs ls hW h)
theorem g_istore_n (G : GX p s m meth c cc nL ret own mn D ca b) {k : Fin 4} {x : Int32} {L' : List (Nat × Value)} (hdg : decode cc pc = .ok (.istore_n k, 1)) (hn : (k : Nat) < nL) (hl : ((k : Nat), Value.int x) :: L.filter (fun q => !(q.1 == (k : Nat)) && !(q.1 + 1 == (k : Nat) && q.2.category == 2)) = L') (kk : WG p l e R s m args below meth c D ca b nL Q cells slots T V (pc + 1) L' st) : WG p l e R s m args below meth c D ca b nL Q cells slots T V pc L (.int x :: st) :=
  fun H locs ls hW h => lv_istore_n G.1 G.2.1 hdg rfl h hn hl (fun ls' h' => kk H locs ls' hW h')
theorem g_istore (G : GX p s m meth c cc nL ret own mn D ca b) {i : Nat} {x : Int32} {L' : List (Nat × Value)} (hdg : decode cc pc = .ok (.istore i, 2)) (hn : i < nL) (hl : (i, Value.int x) :: L.filter (fun q => !(q.1 == i) && !(q.1 + 1 == i && q.2.category == 2)) = L') (kk : WG p l e R s m args below meth c D ca b nL Q cells slots T V (pc + 2) L' st) : WG p l e R s m args below meth c D ca b nL Q cells slots T V pc L (.int x :: st) :=
  fun H locs ls hW h => lv_istore G.1 G.2.1 hdg h hn hl (fun ls' h' => kk H locs ls' hW h')
theorem g_lstore_n (G : GX p s m meth c cc nL ret own mn D ca b) {k : Fin 4} {x : Int64} {L' : List (Nat × Value)} (hdg : decode cc pc = .ok (.lstore_n k, 1)) (hn : (k : Nat) + 1 < nL) (hl : ((k : Nat), Value.long x) :: L.filter (fun q => !(q.1 == (k : Nat)) && (!(q.1 == (k : Nat) + 1) && !(q.1 + 1 == (k : Nat) && q.2.category == 2))) = L') (kk : WG p l e R s m args below meth c D ca b nL Q cells slots T V (pc + 1) L' st) : WG p l e R s m args below meth c D ca b nL Q cells slots T V pc L (.long x :: st) :=
  fun H locs ls hW h => lv_lstore_n G.1 G.2.1 hdg rfl h hn hl (fun ls' h' => kk H locs ls' hW h')
theorem g_astore_n (G : GX p s m meth c cc nL ret own mn D ca b) {k : Fin 4} {o : Option Nat} {L' : List (Nat × Value)} (hdg : decode cc pc = .ok (.astore_n k, 1)) (hn : (k : Nat) < nL) (hl : ((k : Nat), rv b o) :: L.filter (fun q => !(q.1 == (k : Nat)) && !(q.1 + 1 == (k : Nat) && q.2.category == 2)) = L') (kk : WG p l e R s m args below meth c D ca b nL Q cells slots T V (pc + 1) L' st) : WG p l e R s m args below meth c D ca b nL Q cells slots T V pc L (rv b o :: st) := by
  intro H locs ls hW h
  cases o with
  | none => exact lv_astore_nN G.1 G.2.1 hdg rfl h hn hl (fun ls' h' => kk H locs ls' hW h')
  | some a => exact lv_astore_n G.1 G.2.1 hdg rfl h hn hl (fun ls' h' => kk H locs ls' hW h')
theorem g_astore (G : GX p s m meth c cc nL ret own mn D ca b) {i : Nat} {o : Option Nat} {L' : List (Nat × Value)} (hdg : decode cc pc = .ok (.astore i, 2)) (hn : i < nL) (hl : (i, rv b o) :: L.filter (fun q => !(q.1 == i) && !(q.1 + 1 == i && q.2.category == 2)) = L') (kk : WG p l e R s m args below meth c D ca b nL Q cells slots T V (pc + 2) L' st) : WG p l e R s m args below meth c D ca b nL Q cells slots T V pc L (rv b o :: st) := by
  intro H locs ls hW h
  cases o with
  | none => exact lv_astoreN G.1 G.2.1 hdg h hn hl (fun ls' h' => kk H locs ls' hW h')
  | some a => exact lv_astore G.1 G.2.1 hdg h hn hl (fun ls' h' => kk H locs ls' hW h')
theorem g_iinc (G : GX p s m meth c cc nL ret own mn D ca b) {i : Nat} {n : Int} {x v : Int32} {L' : List (Nat × Value)} (hdg : decode cc pc = .ok (.iinc i n, 3)) (j : Nat) (hj : L[j]? = some (i, .int x)) (hv : x + Int32.ofInt n = v) (hn : i < nL) (hl : (i, Value.int v) :: L.filter (fun q => !(q.1 == i) && !(q.1 + 1 == i && q.2.category == 2)) = L') (kk : WG p l e R s m args below meth c D ca b nL Q cells slots T V (pc + 3) L' st) : WG p l e R s m args below meth c D ca b nL Q cells slots T V pc L st :=
  fun H locs ls hW h => lv_iinc G.1 G.2.1 hdg h hj hv hn hl (fun ls' h' => kk H locs ls' hW h')
theorem g_iadd (G : GX p s m meth c cc nL ret own mn D ca b) {x y : Int32} (hdg : decode cc pc = .ok (.iadd, 1)) (k : WG p l e R s m args below meth c D ca b nL Q cells slots T V (pc + 1) L (.int (x + y) :: st)) : WG p l e R s m args below meth c D ca b nL Q cells slots T V pc L (.int y :: .int x :: st) :=
  fun H locs ls hW hl => lv_iadd G.1 G.2.1 hdg (k H locs ls hW hl)
theorem g_isub (G : GX p s m meth c cc nL ret own mn D ca b) {x y : Int32} (hdg : decode cc pc = .ok (.isub, 1)) (k : WG p l e R s m args below meth c D ca b nL Q cells slots T V (pc + 1) L (.int (x - y) :: st)) : WG p l e R s m args below meth c D ca b nL Q cells slots T V pc L (.int y :: .int x :: st) :=
  fun H locs ls hW hl => lv_isub G.1 G.2.1 hdg (k H locs ls hW hl)
theorem g_imul (G : GX p s m meth c cc nL ret own mn D ca b) {x y : Int32} (hdg : decode cc pc = .ok (.imul, 1)) (k : WG p l e R s m args below meth c D ca b nL Q cells slots T V (pc + 1) L (.int (x * y) :: st)) : WG p l e R s m args below meth c D ca b nL Q cells slots T V pc L (.int y :: .int x :: st) :=
  fun H locs ls hW hl => lv_imul G.1 G.2.1 hdg (k H locs ls hW hl)
theorem g_iand (G : GX p s m meth c cc nL ret own mn D ca b) {x y : Int32} (hdg : decode cc pc = .ok (.iand, 1)) (k : WG p l e R s m args below meth c D ca b nL Q cells slots T V (pc + 1) L (.int (x &&& y) :: st)) : WG p l e R s m args below meth c D ca b nL Q cells slots T V pc L (.int y :: .int x :: st) :=
  fun H locs ls hW hl => lv_iand G.1 G.2.1 hdg (k H locs ls hW hl)
theorem g_ior (G : GX p s m meth c cc nL ret own mn D ca b) {x y : Int32} (hdg : decode cc pc = .ok (.ior, 1)) (k : WG p l e R s m args below meth c D ca b nL Q cells slots T V (pc + 1) L (.int (x ||| y) :: st)) : WG p l e R s m args below meth c D ca b nL Q cells slots T V pc L (.int y :: .int x :: st) :=
  fun H locs ls hW hl => lv_ior G.1 G.2.1 hdg (k H locs ls hW hl)
theorem g_ixor (G : GX p s m meth c cc nL ret own mn D ca b) {x y : Int32} (hdg : decode cc pc = .ok (.ixor, 1)) (k : WG p l e R s m args below meth c D ca b nL Q cells slots T V (pc + 1) L (.int (x ^^^ y) :: st)) : WG p l e R s m args below meth c D ca b nL Q cells slots T V pc L (.int y :: .int x :: st) :=
  fun H locs ls hW hl => lv_ixor G.1 G.2.1 hdg (k H locs ls hW hl)
theorem g_irem (G : GX p s m meth c cc nL ret own mn D ca b) {x y : Int32} (hdg : decode cc pc = .ok (.irem, 1)) (hne : ¬ y = 0) (k : WG p l e R s m args below meth c D ca b nL Q cells slots T V (pc + 1) L (.int (x - x / y * y) :: st)) : WG p l e R s m args below meth c D ca b nL Q cells slots T V pc L (.int y :: .int x :: st) :=
  fun H locs ls hW hl => lv_irem G.1 G.2.1 hdg hne (k H locs ls hW hl)
theorem g_ishl (G : GX p s m meth c cc nL ret own mn D ca b) {x y : Int32} (hdg : decode cc pc = .ok (.ishl, 1)) (k : WG p l e R s m args below meth c D ca b nL Q cells slots T V (pc + 1) L (.int (x <<< (y &&& 31)) :: st)) : WG p l e R s m args below meth c D ca b nL Q cells slots T V pc L (.int y :: .int x :: st) :=
  fun H locs ls hW hl => lv_ishl G.1 G.2.1 hdg (k H locs ls hW hl)
theorem g_ishr (G : GX p s m meth c cc nL ret own mn D ca b) {x y : Int32} (hdg : decode cc pc = .ok (.ishr, 1)) (k : WG p l e R s m args below meth c D ca b nL Q cells slots T V (pc + 1) L (.int (x >>> (y &&& 31)) :: st)) : WG p l e R s m args below meth c D ca b nL Q cells slots T V pc L (.int y :: .int x :: st) :=
  fun H locs ls hW hl => lv_ishr G.1 G.2.1 hdg (k H locs ls hW hl)
theorem g_iushr (G : GX p s m meth c cc nL ret own mn D ca b) {x y : Int32} (hdg : decode cc pc = .ok (.iushr, 1)) (k : WG p l e R s m args below meth c D ca b nL Q cells slots T V (pc + 1) L (.int (x.toUInt32 >>> (y.toUInt32 &&& Int32.toUInt32 31)).toInt32 :: st)) : WG p l e R s m args below meth c D ca b nL Q cells slots T V pc L (.int y :: .int x :: st) :=
  fun H locs ls hW hl => lv_iushr G.1 G.2.1 hdg rfl (k H locs ls hW hl)
theorem g_ladd (G : GX p s m meth c cc nL ret own mn D ca b) {x y : Int64} (hdg : decode cc pc = .ok (.ladd, 1)) (k : WG p l e R s m args below meth c D ca b nL Q cells slots T V (pc + 1) L (.long (x + y) :: st)) : WG p l e R s m args below meth c D ca b nL Q cells slots T V pc L (.long y :: .long x :: st) :=
  fun H locs ls hW hl => lv_ladd G.1 G.2.1 hdg (k H locs ls hW hl)
theorem g_lmul (G : GX p s m meth c cc nL ret own mn D ca b) {x y : Int64} (hdg : decode cc pc = .ok (.lmul, 1)) (k : WG p l e R s m args below meth c D ca b nL Q cells slots T V (pc + 1) L (.long (x * y) :: st)) : WG p l e R s m args below meth c D ca b nL Q cells slots T V pc L (.long y :: .long x :: st) :=
  fun H locs ls hW hl => lv_lmul G.1 G.2.1 hdg (k H locs ls hW hl)
theorem g_lcmp (G : GX p s m meth c cc nL ret own mn D ca b) {x y : Int64} (hdg : decode cc pc = .ok (.lcmp, 1)) (k : WG p l e R s m args below meth c D ca b nL Q cells slots T V (pc + 1) L (.int (lg_cmp x y) :: st)) : WG p l e R s m args below meth c D ca b nL Q cells slots T V pc L (.long y :: .long x :: st) :=
  fun H locs ls hW hl => W.lcmp G.1 G.2.1 hdg (k H locs ls hW hl)
theorem g_i2l (G : GX p s m meth c cc nL ret own mn D ca b) {x : Int32} (hdg : decode cc pc = .ok (.i2l, 1)) (k : WG p l e R s m args below meth c D ca b nL Q cells slots T V (pc + 1) L (.long x.toInt64 :: st)) : WG p l e R s m args below meth c D ca b nL Q cells slots T V pc L (.int x :: st) :=
  fun H locs ls hW hl => lv_i2l G.1 G.2.1 hdg rfl (k H locs ls hW hl)
theorem g_i2c (G : GX p s m meth c cc nL ret own mn D ca b) {x : Int32} (hdg : decode cc pc = .ok (.i2c, 1)) (k : WG p l e R s m args below meth c D ca b nL Q cells slots T V (pc + 1) L (.int (x.toUInt32 % 65536).toInt32 :: st)) : WG p l e R s m args below meth c D ca b nL Q cells slots T V pc L (.int x :: st) :=
  fun H locs ls hW hl => lv_i2c G.1 G.2.1 hdg rfl (k H locs ls hW hl)
theorem g_dup (G : GX p s m meth c cc nL ret own mn D ca b) {va : Value} (hdg : decode cc pc = .ok (.dup, 1)) (hc : va.category = 1) (k : WG p l e R s m args below meth c D ca b nL Q cells slots T V (pc + 1) L (va :: va :: st)) : WG p l e R s m args below meth c D ca b nL Q cells slots T V pc L (va :: st) :=
  fun H locs ls hW hl => lv_dup G.1 G.2.1 hdg hc (k H locs ls hW hl)
theorem g_pop (G : GX p s m meth c cc nL ret own mn D ca b) {va : Value} (hdg : decode cc pc = .ok (.pop, 1)) (hc : va.category = 1) (k : WG p l e R s m args below meth c D ca b nL Q cells slots T V (pc + 1) L st) : WG p l e R s m args below meth c D ca b nL Q cells slots T V pc L (va :: st) :=
  fun H locs ls hW hl => lv_pop G.1 G.2.1 hdg hc (k H locs ls hW hl)
theorem g_dup2 (G : GX p s m meth c cc nL ret own mn D ca b) {va vb : Value} (hdg : decode cc pc = .ok (.dup2, 1)) (hc : va.category = 1) (hc2 : vb.category = 1) (k : WG p l e R s m args below meth c D ca b nL Q cells slots T V (pc + 1) L (va :: vb :: va :: vb :: st)) : WG p l e R s m args below meth c D ca b nL Q cells slots T V pc L (va :: vb :: st) :=
  fun H locs ls hW hl => lv_dup2_11 G.1 G.2.1 hdg hc hc2 (k H locs ls hW hl)
theorem g_goto (G : GX p s m meth c cc nL ret own mn D ca b) {off : Int} (tgt : Nat) (hdg : decode cc pc = .ok (.goto off, 3)) (ht : (pc : Int) + off = (tgt : Int)) (k : WG p l e R s m args below meth c D ca b nL Q cells slots T V tgt L st) : WG p l e R s m args below meth c D ca b nL Q cells slots T V pc L st :=
  fun H locs ls hW hl => lv_goto G.1 G.2.1 hdg ht (k H locs ls hW hl)
theorem g_if_eq (G : GX p s m meth c cc nL ret own mn D ca b) {x : Int32} {off : Int} (tgt : Nat) (hdg : decode cc pc = .ok (.ifCond .eq off, 3)) (ht : (pc : Int) + off = (tgt : Int)) (kt : x = 0 → WG p l e R s m args below meth c D ca b nL Q cells slots T V tgt L st) (kf : ¬ x = 0 → WG p l e R s m args below meth c D ca b nL Q cells slots T V (pc + 3) L st) : WG p l e R s m args below meth c D ca b nL Q cells slots T V pc L (.int x :: st) :=
  fun H locs ls hW hl => lv_if_eq G.1 G.2.1 hdg ht (fun h => kt h H locs ls hW hl) (fun h => kf h H locs ls hW hl)
theorem g_icmp_eq (G : GX p s m meth c cc nL ret own mn D ca b) {x y : Int32} {off : Int} (tgt : Nat) (hdg : decode cc pc = .ok (.if_icmp .eq off, 3)) (ht : (pc : Int) + off = (tgt : Int)) (kt : x = y → WG p l e R s m args below meth c D ca b nL Q cells slots T V tgt L st) (kf : ¬ x = y → WG p l e R s m args below meth c D ca b nL Q cells slots T V (pc + 3) L st) : WG p l e R s m args below meth c D ca b nL Q cells slots T V pc L (.int y :: .int x :: st) :=
  fun H locs ls hW hl => lv_icmp_eq G.1 G.2.1 hdg ht (fun h => kt h H locs ls hW hl) (fun h => kf h H locs ls hW hl)
theorem g_if_ne (G : GX p s m meth c cc nL ret own mn D ca b) {x : Int32} {off : Int} (tgt : Nat) (hdg : decode cc pc = .ok (.ifCond .ne off, 3)) (ht : (pc : Int) + off = (tgt : Int)) (kt : ¬ x = 0 → WG p l e R s m args below meth c D ca b nL Q cells slots T V tgt L st) (kf : x = 0 → WG p l e R s m args below meth c D ca b nL Q cells slots T V (pc + 3) L st) : WG p l e R s m args below meth c D ca b nL Q cells slots T V pc L (.int x :: st) :=
  fun H locs ls hW hl => lv_if_ne G.1 G.2.1 hdg ht (fun h => kt h H locs ls hW hl) (fun h => kf h H locs ls hW hl)
theorem g_icmp_ne (G : GX p s m meth c cc nL ret own mn D ca b) {x y : Int32} {off : Int} (tgt : Nat) (hdg : decode cc pc = .ok (.if_icmp .ne off, 3)) (ht : (pc : Int) + off = (tgt : Int)) (kt : ¬ x = y → WG p l e R s m args below meth c D ca b nL Q cells slots T V tgt L st) (kf : x = y → WG p l e R s m args below meth c D ca b nL Q cells slots T V (pc + 3) L st) : WG p l e R s m args below meth c D ca b nL Q cells slots T V pc L (.int y :: .int x :: st) :=
  fun H locs ls hW hl => lv_icmp_ne G.1 G.2.1 hdg ht (fun h => kt h H locs ls hW hl) (fun h => kf h H locs ls hW hl)
theorem g_if_lt (G : GX p s m meth c cc nL ret own mn D ca b) {x : Int32} {off : Int} (tgt : Nat) (hdg : decode cc pc = .ok (.ifCond .lt off, 3)) (ht : (pc : Int) + off = (tgt : Int)) (kt : x < 0 → WG p l e R s m args below meth c D ca b nL Q cells slots T V tgt L st) (kf : ¬ x < 0 → WG p l e R s m args below meth c D ca b nL Q cells slots T V (pc + 3) L st) : WG p l e R s m args below meth c D ca b nL Q cells slots T V pc L (.int x :: st) :=
  fun H locs ls hW hl => lv_if_lt G.1 G.2.1 hdg ht (fun h => kt h H locs ls hW hl) (fun h => kf h H locs ls hW hl)
theorem g_icmp_lt (G : GX p s m meth c cc nL ret own mn D ca b) {x y : Int32} {off : Int} (tgt : Nat) (hdg : decode cc pc = .ok (.if_icmp .lt off, 3)) (ht : (pc : Int) + off = (tgt : Int)) (kt : x < y → WG p l e R s m args below meth c D ca b nL Q cells slots T V tgt L st) (kf : ¬ x < y → WG p l e R s m args below meth c D ca b nL Q cells slots T V (pc + 3) L st) : WG p l e R s m args below meth c D ca b nL Q cells slots T V pc L (.int y :: .int x :: st) :=
  fun H locs ls hW hl => lv_icmp_lt G.1 G.2.1 hdg ht (fun h => kt h H locs ls hW hl) (fun h => kf h H locs ls hW hl)
theorem g_if_ge (G : GX p s m meth c cc nL ret own mn D ca b) {x : Int32} {off : Int} (tgt : Nat) (hdg : decode cc pc = .ok (.ifCond .ge off, 3)) (ht : (pc : Int) + off = (tgt : Int)) (kt : 0 ≤ x → WG p l e R s m args below meth c D ca b nL Q cells slots T V tgt L st) (kf : ¬ 0 ≤ x → WG p l e R s m args below meth c D ca b nL Q cells slots T V (pc + 3) L st) : WG p l e R s m args below meth c D ca b nL Q cells slots T V pc L (.int x :: st) :=
  fun H locs ls hW hl => lv_if_ge G.1 G.2.1 hdg ht (fun h => kt h H locs ls hW hl) (fun h => kf h H locs ls hW hl)
theorem g_icmp_ge (G : GX p s m meth c cc nL ret own mn D ca b) {x y : Int32} {off : Int} (tgt : Nat) (hdg : decode cc pc = .ok (.if_icmp .ge off, 3)) (ht : (pc : Int) + off = (tgt : Int)) (kt : y ≤ x → WG p l e R s m args below meth c D ca b nL Q cells slots T V tgt L st) (kf : ¬ y ≤ x → WG p l e R s m args below meth c D ca b nL Q cells slots T V (pc + 3) L st) : WG p l e R s m args below meth c D ca b nL Q cells slots T V pc L (.int y :: .int x :: st) :=
  fun H locs ls hW hl => lv_icmp_ge G.1 G.2.1 hdg ht (fun h => kt h H locs ls hW hl) (fun h => kf h H locs ls hW hl)
theorem g_if_gt (G : GX p s m meth c cc nL ret own mn D ca b) {x : Int32} {off : Int} (tgt : Nat) (hdg : decode cc pc = .ok (.ifCond .gt off, 3)) (ht : (pc : Int) + off = (tgt : Int)) (kt : 0 < x → WG p l e R s m args below meth c D ca b nL Q cells slots T V tgt L st) (kf : ¬ 0 < x → WG p l e R s m args below meth c D ca b nL Q cells slots T V (pc + 3) L st) : WG p l e R s m args below meth c D ca b nL Q cells slots T V pc L (.int x :: st) :=
  fun H locs ls hW hl => lv_if_gt G.1 G.2.1 hdg ht (fun h => kt h H locs ls hW hl) (fun h => kf h H locs ls hW hl)
theorem g_icmp_gt (G : GX p s m meth c cc nL ret own mn D ca b) {x y : Int32} {off : Int} (tgt : Nat) (hdg : decode cc pc = .ok (.if_icmp .gt off, 3)) (ht : (pc : Int) + off = (tgt : Int)) (kt : y < x → WG p l e R s m args below meth c D ca b nL Q cells slots T V tgt L st) (kf : ¬ y < x → WG p l e R s m args below meth c D ca b nL Q cells slots T V (pc + 3) L st) : WG p l e R s m args below meth c D ca b nL Q cells slots T V pc L (.int y :: .int x :: st) :=
  fun H locs ls hW hl => lv_icmp_gt G.1 G.2.1 hdg ht (fun h => kt h H locs ls hW hl) (fun h => kf h H locs ls hW hl)
theorem g_if_le (G : GX p s m meth c cc nL ret own mn D ca b) {x : Int32} {off : Int} (tgt : Nat) (hdg : decode cc pc = .ok (.ifCond .le off, 3)) (ht : (pc : Int) + off = (tgt : Int)) (kt : x ≤ 0 → WG p l e R s m args below meth c D ca b nL Q cells slots T V tgt L st) (kf : ¬ x ≤ 0 → WG p l e R s m args below meth c D ca b nL Q cells slots T V (pc + 3) L st) : WG p l e R s m args below meth c D ca b nL Q cells slots T V pc L (.int x :: st) :=
  fun H locs ls hW hl => lv_if_le G.1 G.2.1 hdg ht (fun h => kt h H locs ls hW hl) (fun h => kf h H locs ls hW hl)
theorem g_icmp_le (G : GX p s m meth c cc nL ret own mn D ca b) {x y : Int32} {off : Int} (tgt : Nat) (hdg : decode cc pc = .ok (.if_icmp .le off, 3)) (ht : (pc : Int) + off = (tgt : Int)) (kt : x ≤ y → WG p l e R s m args below meth c D ca b nL Q cells slots T V tgt L st) (kf : ¬ x ≤ y → WG p l e R s m args below meth c D ca b nL Q cells slots T V (pc + 3) L st) : WG p l e R s m args below meth c D ca b nL Q cells slots T V pc L (.int y :: .int x :: st) :=
  fun H locs ls hW hl => lv_icmp_le G.1 G.2.1 hdg ht (fun h => kt h H locs ls hW hl) (fun h => kf h H locs ls hW hl)
theorem g_ifnullN (G : GX p s m meth c cc nL ret own mn D ca b) {off : Int} (tgt : Nat) (hdg : decode cc pc = .ok (.ifnull off, 3)) (ht : (pc : Int) + off = (tgt : Int)) (k : WG p l e R s m args below meth c D ca b nL Q cells slots T V tgt L st) : WG p l e R s m args below meth c D ca b nL Q cells slots T V pc L (rv b none :: st) :=
  fun H locs ls hW hl => lv_ifnullN G.1 G.2.1 hdg ht (k H locs ls hW hl)
theorem g_ifnullS (G : GX p s m meth c cc nL ret own mn D ca b) {off : Int} {a : Nat} (hdg : decode cc pc = .ok (.ifnull off, 3)) (k : WG p l e R s m args below meth c D ca b nL Q cells slots T V (pc + 3) L st) : WG p l e R s m args below meth c D ca b nL Q cells slots T V pc L (rv b (some a) :: st) :=
  fun H locs ls hW hl => lv_ifnull G.1 G.2.1 hdg (k H locs ls hW hl)
theorem g_ifnonnullN (G : GX p s m meth c cc nL ret own mn D ca b) {off : Int} (hdg : decode cc pc = .ok (.ifnonnull off, 3)) (k : WG p l e R s m args below meth c D ca b nL Q cells slots T V (pc + 3) L st) : WG p l e R s m args below meth c D ca b nL Q cells slots T V pc L (rv b none :: st) :=
  fun H locs ls hW hl => lv_ifnonnullN G.1 G.2.1 hdg (k H locs ls hW hl)
theorem g_ifnonnullS (G : GX p s m meth c cc nL ret own mn D ca b) {off : Int} {a : Nat} (tgt : Nat) (hdg : decode cc pc = .ok (.ifnonnull off, 3)) (ht : (pc : Int) + off = (tgt : Int)) (k : WG p l e R s m args below meth c D ca b nL Q cells slots T V tgt L st) : WG p l e R s m args below meth c D ca b nL Q cells slots T V pc L (rv b (some a) :: st) :=
  fun H locs ls hW hl => lv_ifnonnull G.1 G.2.1 hdg ht (k H locs ls hW hl)
theorem g_tabO (G : GX p s m meth c cc nL ret own mn D ca b) {dflt lo hi : Int} {offs : Array Int} {len : Nat} {x : Int32} (tgt : Nat) (hdg : decode cc pc = .ok (.tableswitch dflt lo hi offs, len)) (h : x.toInt < lo ∨ hi < x.toInt) (ht : (pc : Int) + dflt = (tgt : Int)) (k : WG p l e R s m args below meth c D ca b nL Q cells slots T V tgt L st) : WG p l e R s m args below meth c D ca b nL Q cells slots T V pc L (.int x :: st) :=
  fun H locs ls hW hl => lv_tableOut G.1 G.2.1 hdg h ht (k H locs ls hW hl)
theorem g_tabI (G : GX p s m meth c cc nL ret own mn D ca b) {dflt lo hi off : Int} {offs : Array Int} {len : Nat} {x : Int32} (tgt : Nat) (hdg : decode cc pc = .ok (.tableswitch dflt lo hi offs, len)) (h1 : ¬ x.toInt < lo) (h2 : ¬ hi < x.toInt) (ho : offs[(x.toInt - lo).toNat]? = some off) (ht : (pc : Int) + off = (tgt : Int)) (k : WG p l e R s m args below meth c D ca b nL Q cells slots T V tgt L st) : WG p l e R s m args below meth c D ca b nL Q cells slots T V pc L (.int x :: st) :=
  fun H locs ls hW hl => lv_tableIn G.1 G.2.1 hdg h1 h2 ho ht (k H locs ls hW hl)
theorem g_look (G : GX p s m meth c cc nL ret own mn D ca b) {dflt off : Int} {ps : Array (Int × Int)} {len : Nat} {x : Int32} (tgt : Nat) (hdg : decode cc pc = .ok (.lookupswitch dflt ps, len)) (hp : (ps.toList.zip (ps.toList.drop 1)).all (fun (a, next) => a.1 < next.1) = true) (ho : Op.lookupswitch.offset ps.toList dflt x.toInt = off) (ht : (pc : Int) + off = (tgt : Int)) (k : WG p l e R s m args below meth c D ca b nL Q cells slots T V tgt L st) : WG p l e R s m args below meth c D ca b nL Q cells slots T V pc L (.int x :: st) :=
  fun H locs ls hW hl => lv_lookup G.1 G.2.1 hdg hp ho ht (k H locs ls hW hl)
end RW
