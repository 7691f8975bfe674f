section CL
variable {p : Program} {l : Launch} {e : Env} {R : Room} {s : State} {m : MethodId} {args : Array Value} {below : List Frame} {meth : Method} {c : Code} {D : va_G} {ca : Nat → ClassId} {b nL : Nat} {Q : State → Prop} {cells slots : Nat} {T : Tx} {V : Vx} {pc : Nat} {L : List (Nat × Value)} {st : List Value} {cc : ByteArray} {ret : Option FieldType} {own mn : String}
theorem W_sz {H : Heap} {locs : List Loc} {g : JFrame} (h : H.size ≤ s.heap.size + cells → W p l e R s m args below meth c H locs cells slots Q g) : W p l e R s m args below meth c H locs cells slots Q g :=
  fun T hT X => h (by rw [← hT]; exact X.same.2.2.1) T hT X
theorem GW_low {H0 H : Heap} {locs : List Loc} (h : GW D ca b T V H0 cells H locs) (hb : b ≤ H0.size) : b + tp T ≤ H.size := by
  rcases Nat.eq_zero_or_pos (tp T) with q | q
  · have := h.2.2.2.1
    omega
  · have h1 := (h.1 (tp T - 1) _ (cs_at (by omega))).lt
    have h1 : b + (tp T - 1) < H.size := h1
    omega
def GPc (D : va_G) (ca : Nat → ClassId) (b : Nat) (av : List Value) (T : Tx) (V : Vx) : Array Value → State → Prop := fun v U =>
  v = av.toArray ∧ TB U ∧ va_K D vwCl (tyl ca) U ∧ va_P D vwCl (cs b ca T V) U.heap ∧ U.heap.size = b + tp T ∧ (∀ a, tp T ≤ a → kd T a = 99)
def GQc (D : va_G) (ca : Nat → ClassId) (b : Nat) (r : Option Value) (T : Tx) (V : Vx) : Array Value → State → Outcome → State → Prop := fun _ st o t =>
  o = .returned r ∧ va_P D vwCl (cs b ca T V) t.heap ∧ t.heap.size = b + tp T ∧ (∀ a, tp T ≤ a → kd T a = 99) ∧ va_F (fun q : Nat => b ≤ q) st t
def MG (l : Launch) (y : MethodName) (cc : ByteArray) (maxL : Nat) (ret : Option FieldType) (fr lo mc ms : Nat) (D : va_G) (ca : Nat → ClassId) (b : Nat) (av : List Value) (T : Tx) (V : Vx) (r : Option Value) (T' : Tx) (V' : Vx) : Prop :=
  Met l y [.code y cc maxL ret] ({ frames := fr, cells := mc, slots := ms, locals := lo } : Room) (GPc D ca b av T V) (GQc D ca b r T' V') mc ms (fun q : Nat => b ≤ q)
theorem GPc_blind {av : List Value} : FrameBlind (GPc D ca b av T V) := by
  rintro a U g mk ⟨h1, h2, h3, h4⟩
  exact ⟨h1, TB.warm (U := U.calling g mk a) (State.WarmedH.refl U) h2, va_K.moved (u := U) (U := U.calling g mk a) (Vm.Alike.refl U.vm) h3, h4⟩
theorem MG.ofWG {y : MethodName} {maxL fr lo mc ms : Nat} {av : List Value} {T' : Tx} {V' : Vx} {r : Option Value} (hy : plainName y.cls = true) (hL : lv_args 0 av = L) (hS : (lg_sl av).length ≤ maxL)
    (body : ∀ (p : Program) (e : Env) (s : State) (m : MethodId) (below : List Frame) (meth : Method) (c : Code), GX p s m meth c cc maxL ret y.cls y.name D ca b → s.heap.size = b + tp T → WG p l e ({ frames := fr, cells := mc, slots := ms, locals := lo } : Room) s m av.toArray below meth c D ca b maxL (MQ below (GQc D ca b r T' V') av.toArray s mc ms (fun q : Nat => b ≤ q)) 0 0 T V 0 L []) : MG l y cc maxL ret fr lo mc ms D ca b av T V r T' V' := by
  refine Met.ofW (cc := cc) (maxL := maxL) (ret := ret) hy rfl ?_
  intro p e s m args below meth c s₁ B hml hv
  obtain ⟨rfl, hTB, hK, hP, hsz, h99⟩ := hv
  have hl := lv_entry av (n := maxL) hS
  rw [hL] at hl
  rw [lg_entry_eq]
  exact body p e s m below meth c ⟨B.exec, B.bytes, hml, findClass_of_methodNamed B.named, hTB, hK, B.returns, B.notSynchronized, by omega, (name_of_methodNamed B.named B.method).1⟩ hsz s.heap [] _ ⟨hP, by omega, h99, va_S.rf⟩ hl
theorem g_iret (G : GX p s m meth c cc nL (some .int) own mn D ca b) {v : Int32} (hdg : decode cc pc = .ok (.ireturn, 1)) : WG p l e R s m args below meth c D ca b nL (MQ below (GQc D ca b (some (.int v)) T V) args s cells slots (fun q : Nat => b ≤ q)) cells slots T V pc L [.int v] := by
  intro H locs ls hW hl
  have hlow := GW_low hW G.2.2.2.2.2.2.2.2.1
  have hE := hW.2.1
  refine W_sz fun hsz => W.iret G.1 G.2.1 G.2.2.2.2.2.2.1 (fun t ht hWm => ⟨rfl, by rw [ht]; exact hW.1, by rw [ht]; omega, hW.2.2.1, hW.2.2.2.F ht⟩) hW.2.2.2.2.2 hdg G.2.2.2.2.2.2.2.1
theorem g_zret (G : GX p s m meth c cc nL (some .boolean) own mn D ca b) {v : Int32} (hz : zo v = true) (hdg : decode cc pc = .ok (.ireturn, 1)) : WG p l e R s m args below meth c D ca b nL (MQ below (GQc D ca b (some (.int v)) T V) args s cells slots (fun q : Nat => b ≤ q)) cells slots T V pc L [.int v] := by
  intro H locs ls hW hl
  have hlow := GW_low hW G.2.2.2.2.2.2.2.2.1
  have hE := hW.2.1
  refine W_sz fun hsz => W.zret G.1 G.2.1 G.2.2.2.2.2.2.1 (zo_n hz).1 (fun t ht hWm => ⟨rfl, by rw [ht]; exact hW.1, by rw [ht]; omega, hW.2.2.1, hW.2.2.2.F ht⟩) hW.2.2.2.2.2 hdg G.2.2.2.2.2.2.2.1
theorem g_lret (G : GX p s m meth c cc nL (some .long) own mn D ca b) {v : Int64} (hdg : decode cc pc = .ok (.lreturn, 1)) : WG p l e R s m args below meth c D ca b nL (MQ below (GQc D ca b (some (.long v)) T V) args s cells slots (fun q : Nat => b ≤ q)) cells slots T V pc L [.long v] := by
  intro H locs ls hW hl
  have hlow := GW_low hW G.2.2.2.2.2.2.2.2.1
  have hE := hW.2.1
  refine W_sz fun hsz => W.lret G.1 G.2.1 G.2.2.2.2.2.2.1 (fun t ht hWm => ⟨rfl, by rw [ht]; exact hW.1, by rw [ht]; omega, hW.2.2.1, hW.2.2.2.F ht⟩) hW.2.2.2.2.2 hdg G.2.2.2.2.2.2.2.1
theorem g_vret (G : GX p s m meth c cc nL none own mn D ca b) (hdg : decode cc pc = .ok (.return_, 1)) : WG p l e R s m args below meth c D ca b nL (MQ below (GQc D ca b none T V) args s cells slots (fun q : Nat => b ≤ q)) cells slots T V pc L [] := by
  intro H locs ls hW hl
  have hlow := GW_low hW G.2.2.2.2.2.2.2.2.1
  have hE := hW.2.1
  refine W_sz fun hsz => W.vret G.1 G.2.1 G.2.2.2.2.2.2.1 (fun t ht hWm => ⟨rfl, by rw [ht]; exact hW.1, by rw [ht]; omega, hW.2.2.1, hW.2.2.2.F ht⟩) hW.2.2.2.2.2 hdg G.2.2.2.2.2.2.2.1
theorem g_aret {C : String} (G : GX p s m meth c cc nL (some (.object C)) own mn D ca b) {o : Option Nat} (hdg : decode cc pc = .ok (.areturn, 1)) : WG p l e R s m args below meth c D ca b nL (MQ below (GQc D ca b (some (rv b o)) T V) args s cells slots (fun q : Nat => b ≤ q)) cells slots T V pc L [rv b o] := by
  intro H locs ls hW hl
  have hlow := GW_low hW G.2.2.2.2.2.2.2.2.1
  have hE := hW.2.1
  refine W_sz fun hsz => W.aret G.1 G.2.1 G.2.2.2.2.2.2.1 (Or.inl ⟨C, rfl⟩) (rv_isr b o) (fun t ht hWm => ⟨rfl, by rw [ht]; exact hW.1, by rw [ht]; omega, hW.2.2.1, hW.2.2.2.F ht⟩) hW.2.2.2.2.2 hdg G.2.2.2.2.2.2.2.1
theorem g_widen {sl : Nat} (h : slots ≤ sl) (k : WG p l e R s m args below meth c D ca b nL Q cells sl T V pc L st) : WG p l e R s m args below meth c D ca b nL Q cells slots T V pc L st :=
  fun H locs ls hW hl => W.widen (Nat.le_refl _) h (k H locs ls hW hl)
theorem g_sub {L' : List (Nat × Value)} (ks : List Nat) (h : lv_pick L ks = L') (k : WG p l e R s m args below meth c D ca b nL Q cells slots T V pc L' st) : WG p l e R s m args below meth c D ca b nL Q cells slots T V pc L st :=
  fun H locs ls hW hl => k H locs ls hW (lv_sub hl ks h)
/-- what the tables say of a method, for a call of it -/
def MB (y : MethodName) (ycc : ByteArray) (maxL : Nat) (yret : Option FieldType) (n : Nat) (s : State) : Prop :=
  (∀ (a' : Array Value) (U : State), s.WarmedH U.vm → (Cond.code y ycc maxL yret).before a' U = true) ∧ (∀ a' : Array Value, (Cond.initialized y.cls).before a' s = true) ∧ (y.cls ≠ "java/lang/invoke/MethodHandle" ∧ y.cls ≠ "java/lang/invoke/VarHandle") ∧ (∀ sig, parseMethodDescriptor y.desc = some sig → n = sig.parameters.length)
theorem MB.mk {y : MethodName} {ycc : ByteArray} {maxL n : Nat} {yret : Option FieldType} (i j : Nat) (h : TB s) (hi : lw_tbl[i]? = some (.code y ycc maxL yret)) (hj : lw_tbl[j]? = some (.initialized y.cls)) (hd : (y.cls ≠ "java/lang/invoke/MethodHandle" ∧ y.cls ≠ "java/lang/invoke/VarHandle") ∧ (parseMethodDescriptor y.desc).map (fun d => d.parameters.length) = some n) : MB y ycc maxL yret n s := by
  refine ⟨fun a' U hW => ?_, fun a' => TB.w j hj rfl h, hd.1, fun sig h1 => ?_⟩
  · exact TB.w i hi rfl (TB.warm hW h)
  · have h2 := hd.2
    rw [h1] at h2
    exact (Option.some.inj h2).symm
theorem g_after {y : MethodName} {T' : Tx} {V' : Vx} {r : Option Value} {mc ms : Nat} {rest : List Value} {H : Heap} {locs : List Loc} {ls : Array Slot} {av : Array Value} (G : GX p s m meth c cc nL ret own mn D ca b) (hW : GW D ca b T V s.heap cells H locs) (hl : lv_has ls nL L) (hsz : H.size = b + tp T) (hmc : tp T' = tp T + mc)
    (run : va_Run p l e R s m args below meth c H locs cells slots mc ms (F0 m pc ls st) rest (GQc D ca b r T' V' av) (fun q : Nat => b ≤ q))
    (k : WG p l e R s m args below meth c D ca b nL Q (cells + mc) (slots + ms) T' V' (pc + 3) L (r.toList ++ rest)) : W p l e R s m args below meth c H locs cells slots Q (F0 m pc ls st) := by
  intro T0 hT X
  obtain ⟨v, st₀, t, T1, Lc, h0, X', hL, e1, e2, ⟨hv, hP', hz', hk', hF⟩, stp⟩ := run T0 hT X
  cases hv
  have hE := hW.2.1
  have hS := hW.2.2.2
  obtain ⟨hz, hk⟩ := hF
  rw [h0] at hz hk
  obtain ⟨t2, a1, b1⟩ := k T1.heap (locs ++ Lc) ls ⟨by rw [e1]; exact hP', by omega, hk', ⟨Nat.le_trans hS.1 (by rw [e1]; exact hz), fun q h1 h2 => by rw [e1, hk q (Nat.lt_of_lt_of_le h1 hS.1) h2]; exact hS.2.1 q h1 h2, fun q hq => by
      rcases List.mem_append.mp hq with h | h
      · exact hS.2.2 q h
      · exact hL q h⟩⟩ hl T1 rfl X'
  exact ⟨t2, stp t2 a1, b1⟩
theorem g_callV {y : MethodName} {ycc : ByteArray} {ymax n fr lo mc ms index a kc N : Nat} {yret : Option FieldType} {As rest : List Value} {r : Option Value} {T' : Tx} {V' : Vx} {C : String} {Tt : u_T} {ty : Nat → FieldType} (G : GX p s m meth c cc nL ret own mn D ca b) (hM : MG l y ycc ymax yret fr lo mc ms D ca b (rv b (some a) :: As) T V r T' V') (hB : MB y ycc ymax yret n s) (hin : (Cond.instanceMethod y).before args s = true) (hsel : (Cond.selects C y y).before args s = true) (hlink : (Cond.methodLink own index y).before args s = true) (ci : CI kc C Tt N ty) (hk : kd T a = kc) (hn : As.length = n) (hst : st = As.reverse ++ rv b (some a) :: rest) (hcat : (rest.map fun v => v.category).sum ≤ 8) (hR : fr + 1 ≤ R.frames ∧ 8 + (ymax + 11) + lo ≤ R.locals) (hf : cells + mc ≤ R.cells ∧ slots + ms ≤ R.slots) (hmc : tp T' = tp T + mc) {st2 : List Value} (hst2 : r.toList ++ rest = st2) (hdg : decode cc pc = .ok (.invokevirtual index, 3))
    (k : WG p l e R s m args below meth c D ca b nL Q (cells + mc) (slots + ms) T' V' (pc + 3) L st2) : WG p l e R s m args below meth c D ca b nL Q cells slots T V pc L st := by
  subst hst2
  intro H locs ls hW hl
  refine W_sz fun hsz => ?_
  have hlow := GW_low hW G.2.2.2.2.2.2.2.2.1
  have hE := hW.2.1
  have hH : H.size = b + tp T := by omega
  have hcs := cs_obj ci hW hk
  exact g_after (y := y) G hW hl hH hmc (va_runV (As := As) (rest := rest) (Ts := []) (C := C) ⟨G.1, G.2.1, G.2.2.1, G.2.2.2.1, fun _ h => by cases h⟩ hM ⟨⟨rfl, rfl, hR.1, hR.2, fun w hw a' U hWm => (by rw [List.mem_singleton.mp hw]; exact hB.1 a' U hWm), List.mem_singleton.mpr rfl, hB.1 args s (State.WarmedH.refl s), hB.2.1 args, hB.2.2.1, hB.2.2.2, hlink⟩, hin, hsel⟩ ⟨GPc_blind, va_recv G.2.2.2.2.2.1 hW.1 ci.1 hcs, fun U hU hWm => ⟨rfl, TB.warm hWm G.2.2.2.2.1, va_K.moved hWm.alike G.2.2.2.2.2.1, by rw [hU]; exact hW.1, by rw [hU]; exact hH, hW.2.2.1⟩⟩ rfl hn hl.1 hst (lv_room hcat) hdg hf) k
theorem g_callS {y : MethodName} {ycc : ByteArray} {ymax n fr lo mc ms index : Nat} {yret : Option FieldType} {As rest : List Value} {r : Option Value} {T' : Tx} {V' : Vx} (G : GX p s m meth c cc nL ret own mn D ca b) (hM : MG l y ycc ymax yret fr lo mc ms D ca b As T V r T' V') (hB : MB y ycc ymax yret n s) (hstt : (Cond.static y).before args s = true) (hlink : (Cond.methodLink own index y).before args s = true) (hn : As.length = n) (hst : st = As.reverse ++ rest) (hcat : (rest.map fun v => v.category).sum ≤ 8) (hR : fr + 1 ≤ R.frames ∧ 8 + (ymax + 11) + lo ≤ R.locals) (hf : cells + mc ≤ R.cells ∧ slots + ms ≤ R.slots) (hmc : tp T' = tp T + mc) {st2 : List Value} (hst2 : r.toList ++ rest = st2) (hdg : decode cc pc = .ok (.invokestatic index, 3))
    (k : WG p l e R s m args below meth c D ca b nL Q (cells + mc) (slots + ms) T' V' (pc + 3) L st2) : WG p l e R s m args below meth c D ca b nL Q cells slots T V pc L st := by
  subst hst2
  intro H locs ls hW hl
  refine W_sz fun hsz => ?_
  have hlow := GW_low hW G.2.2.2.2.2.2.2.2.1
  have hE := hW.2.1
  have hH : H.size = b + tp T := by omega
  exact g_after (y := y) G hW hl hH hmc (va_runS (As := As) (rest := rest) (Ts := []) ⟨G.1, G.2.1, G.2.2.1, G.2.2.2.1, fun _ h => by cases h⟩ hM ⟨⟨rfl, rfl, hR.1, hR.2, fun w hw a' U hWm => (by rw [List.mem_singleton.mp hw]; exact hB.1 a' U hWm), List.mem_singleton.mpr rfl, hB.1 args s (State.WarmedH.refl s), hB.2.1 args, hB.2.2.1, hB.2.2.2, hlink⟩, hstt⟩ ⟨GPc_blind, fun U hU hWm => ⟨rfl, TB.warm hWm G.2.2.2.2.1, va_K.moved hWm.alike G.2.2.2.2.2.1, by rw [hU]; exact hW.1, by rw [hU]; exact hH, hW.2.2.1⟩⟩ rfl hn hl.1 hst (lv_room hcat) hdg hf) k
theorem g_callI {y : MethodName} {ycc : ByteArray} {ymax n fr lo mc ms index a : Nat} {As rest : List Value} {r : Option Value} {T' : Tx} {V' : Vx} (G : GX p s m meth c cc nL ret own mn D ca b) (hM : MG l y ycc ymax none fr lo mc ms D ca b (rv b (some a) :: As) T V r T' V') (hB : MB y ycc ymax none n s) (hin : (Cond.instanceMethod y).before args s = true) (hlink : (Cond.methodLink own index y).before args s = true) (hy1 : y.name = "<init>") (hn : As.length = n) (hst : st = As.reverse ++ rv b (some a) :: rest) (hcat : (rest.map fun v => v.category).sum ≤ 8) (hR : fr + 1 ≤ R.frames ∧ 8 + (ymax + 11) + lo ≤ R.locals) (hf : cells + mc ≤ R.cells ∧ slots + ms ≤ R.slots) (hmc : tp T' = tp T + mc) {st2 : List Value} (hst2 : r.toList ++ rest = st2) (hdg : decode cc pc = .ok (.invokespecial index, 3))
    (k : WG p l e R s m args below meth c D ca b nL Q (cells + mc) (slots + ms) T' V' (pc + 3) L st2) : WG p l e R s m args below meth c D ca b nL Q cells slots T V pc L st := by
  subst hst2
  intro H locs ls hW hl
  refine W_sz fun hsz => ?_
  have hlow := GW_low hW G.2.2.2.2.2.2.2.2.1
  have hE := hW.2.1
  have hH : H.size = b + tp T := by omega
  exact g_after (y := y) G hW hl hH hmc (va_runI (As := As) (rest := rest) (Ts := []) ⟨G.1, G.2.1, G.2.2.1, G.2.2.2.1, fun _ h => by cases h⟩ hM ⟨⟨rfl, rfl, hR.1, hR.2, fun w hw a' U hWm => (by rw [List.mem_singleton.mp hw]; exact hB.1 a' U hWm), List.mem_singleton.mpr rfl, hB.1 args s (State.WarmedH.refl s), hB.2.1 args, hB.2.2.1, hB.2.2.2, hlink⟩, hy1, hin⟩ ⟨GPc_blind, fun U hU hWm => ⟨rfl, TB.warm hWm G.2.2.2.2.1, va_K.moved hWm.alike G.2.2.2.2.2.1, by rw [hU]; exact hW.1, by rw [hU]; exact hH, hW.2.2.1⟩⟩ rfl hn hl.1 hst (lv_room hcat) hdg hf) k
theorem g_callIN {y : MethodName} {ycc : ByteArray} {ymax n fr lo mc ms index a : Nat} {host : String} {As rest : List Value} {r : Option Value} {T' : Tx} {V' : Vx} (G : GX p s m meth c cc nL ret own mn D ca b) (hM : MG l y ycc ymax none fr lo mc ms D ca b (rv b (some a) :: As) T V r T' V') (hB : MB y ycc ymax none n s) (hin : (Cond.instanceMethod y).before args s = true) (hlink : (Cond.methodLinkNest own index y host).before args s = true) (hy1 : y.name = "<init>") (hn : As.length = n) (hst : st = As.reverse ++ rv b (some a) :: rest) (hcat : (rest.map fun v => v.category).sum ≤ 8) (hR : fr + 1 ≤ R.frames ∧ 8 + (ymax + 11) + lo ≤ R.locals) (hf : cells + mc ≤ R.cells ∧ slots + ms ≤ R.slots) (hmc : tp T' = tp T + mc) {st2 : List Value} (hst2 : r.toList ++ rest = st2) (hdg : decode cc pc = .ok (.invokespecial index, 3))
    (k : WG p l e R s m args below meth c D ca b nL Q (cells + mc) (slots + ms) T' V' (pc + 3) L st2) : WG p l e R s m args below meth c D ca b nL Q cells slots T V pc L st := by
  subst hst2
  intro H locs ls hW hl
  refine W_sz fun hsz => ?_
  have hlow := GW_low hW G.2.2.2.2.2.2.2.2.1
  have hE := hW.2.1
  have hH : H.size = b + tp T := by omega
  exact g_after (y := y) G hW hl hH hmc (va_runIN (As := As) (rest := rest) (Ts := []) (host := host) ⟨G.1, G.2.1, G.2.2.1, G.2.2.2.1, fun _ h => by cases h⟩ hM ⟨⟨⟨rfl, rfl, hR.1, hR.2, fun w hw a' U hWm => (by rw [List.mem_singleton.mp hw]; exact hB.1 a' U hWm), List.mem_singleton.mpr rfl⟩, hB.1 args s (State.WarmedH.refl s), hB.2.1 args, hB.2.2.1, hB.2.2.2, hlink⟩, hy1, hin⟩ ⟨GPc_blind, fun U hU hWm => ⟨rfl, TB.warm hWm G.2.2.2.2.1, va_K.moved hWm.alike G.2.2.2.2.2.1, by rw [hU]; exact hW.1, by rw [hU]; exact hH, hW.2.2.1⟩⟩ rfl hn hl.1 hst (lv_room hcat) hdg hf) k
theorem g_objInit (G : GX p s m meth c cc nL ret own mn D ca b) {idx a : Nat} {rest : List Value} (hlink : (Cond.methodLink own idx Lib.objectInit).before args s = true) (hinst : (Cond.instanceMethod Lib.objectInit).before args s = true) (hcode : (Cond.code Lib.objectInit ⟨#[0xb1]⟩ 1 none).before args s = true) (hd : decode cc pc = .ok (.invokespecial idx, 3)) (hR : 1 ≤ R.frames ∧ (rest.map fun v => v.category).sum + 12 ≤ R.locals) (k : WG p l e R s m args below meth c D ca b nL Q cells slots T V (pc + 3) L rest) : WG p l e R s m args below meth c D ca b nL Q cells slots T V pc L (rv b (some a) :: rest) := by
  intro H locs ls hW hl
  refine W.objInit (a := b + a) (rest := rest) G.1 G.2.1 G.2.2.2.1 hlink hinst hcode rfl (by rw [G.2.2.1]; exact hl.1) rfl hd hR.1 (by simpa [JFrame.monitorRoom] using hR.2) (k H locs ls hW hl)
theorem g_mmax (G : GX p s m meth c cc nL ret own mn D ca b) {index : Nat} (hlink : (Cond.methodLink own index Lib.Math.max.name).before args s = true) (hstat : (Cond.static Lib.Math.max.name).before args s = true) (hini : (Cond.initialized "java/lang/Math").before args s = true) (hcode : (Cond.code Lib.Math.max.name Lib.Math.max.code 2 (some .int)).before args s = true) (hR : 1 ≤ R.frames ∧ (st.map fun v => v.category).sum + 13 ≤ R.locals) (hc : cells ≤ R.cells ∧ slots ≤ R.slots) {x y : Int32} (hdg : decode cc pc = .ok (.invokestatic index, 3)) (k : WG p l e R s m args below meth c D ca b nL Q cells slots T V (pc + 3) L (.int (if x < y then y else x) :: st)) : WG p l e R s m args below meth c D ca b nL Q cells slots T V pc L (.int y :: .int x :: st) :=
  fun H locs ls hW hl => va_mmax G.1 G.2.1 (G.2.2.1.trans hl.1.symm) G.2.2.2.1 hlink hstat hini hcode hR.1 hR.2 hc.1 hc.2 hdg (k H locs ls hW hl)
theorem g_mmin (G : GX p s m meth c cc nL ret own mn D ca b) {index : Nat} (hlink : (Cond.methodLink own index Lib.Math.min.name).before args s = true) (hstat : (Cond.static Lib.Math.min.name).before args s = true) (hini : (Cond.initialized "java/lang/Math").before args s = true) (hcode : (Cond.code Lib.Math.min.name Lib.Math.min.code 2 (some .int)).before args s = true) (hR : 1 ≤ R.frames ∧ (st.map fun v => v.category).sum + 13 ≤ R.locals) (hc : cells ≤ R.cells ∧ slots ≤ R.slots) {x y : Int32} (hdg : decode cc pc = .ok (.invokestatic index, 3)) (k : WG p l e R s m args below meth c D ca b nL Q cells slots T V (pc + 3) L (.int (if y < x then y else x) :: st)) : WG p l e R s m args below meth c D ca b nL Q cells slots T V pc L (.int y :: .int x :: st) :=
  fun H locs ls hW hl => va_mmin G.1 G.2.1 (G.2.2.1.trans hl.1.symm) G.2.2.2.1 hlink hstat hini hcode hR.1 hR.2 hc.1 hc.2 hdg (k H locs ls hW hl)
end CL
def lt {α γ : Type} (x : α) (f : α → γ) : γ := f x
theorem lt_e {α γ : Type} {x : α} {f : α → γ} {y : γ} (h : lt x f = y) : ∃ a, x = a ∧ f a = y := ⟨x, rfl, h⟩
def jn {α γ : Type} (k : α) (f : α → γ) : γ := f k
theorem jn_e {α γ : Type} {k : α} {f : α → γ} {y : γ} (h : jn k f = y) : ∃ a, a = k ∧ f a = y := ⟨k, rfl, h⟩
abbrev QG (D : va_G) (ca : Nat → ClassId) (b : Nat) (r : Option Value) (T : Tx) (V : Vx) (below : List Frame) (args : Array Value) (s : State) (mc ms : Nat) : State → Prop := MQ below (GQc D ca b r T V) args s mc ms (fun q : Nat => b ≤ q)
def cko (T : Tx) (c : Nat) (o : Option Nat) : Bool := match o with
  | none => true
  | some a => decide (kd T a = c)
theorem cko_e {T : Tx} {c : Nat} {o : Option Nat} (h : cko T c o = true) : ∀ a, o = some a → kd T a = c := by
  intro a ha
  subst ha
  simpa [cko] using h
/-- enough for every loop -/
def FU : Nat := 100000
