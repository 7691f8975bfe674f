def GPx (D : va_G) (ca : Nat → ClassId) (b adK adV : Nat) (av : List Value) (T : Tx) (V : Vx) : Array Value → State → Prop := fun v U => GPc D ca b av T V v U ∧ SF b adK adV U U.heap
def MX (l : Launch) (y : MethodName) (cc : ByteArray) (maxL : Nat) (ret : Option FieldType) (fr lo mc ms : Nat) (D : va_G) (ca : Nat → ClassId) (b adK adV : Nat) (av : List Value) (T : Tx) (V : Vx) (r : Option Value) (T' : Tx) (V' : Vx) : Prop :=
  Met l y [.code y cc maxL ret] ({ frames := fr, cells := mc, slots := ms, locals := lo } : Room) (GPx D ca b adK adV av T V) (GQc D ca b r T' V') mc ms (fun q : Nat => b ≤ q)
section SRW
variable {p : Program} {l : Launch} {e : Env} {R : Room} {s : State} {m : MethodId} {args : Array Value} {below : List Frame} {meth : Method} {c : Code} {D : va_G} {ca : Nat → ClassId} {b nL adK adV : Nat} {Q : State → Prop} {cells slots : Nat} {T : Tx} {V : Vx} {pc : Nat} {L : List (Nat × Value)} {st : List Value} {cc : ByteArray} {ret : Option FieldType} {own mn : String}
theorem GPx_blind {av : List Value} : FrameBlind (GPx D ca b adK adV av T V) := by
  rintro a U g mk ⟨h1, h2⟩
  exact ⟨GPc_blind a U g mk h1, SF.warm (U := U.calling g mk a) (State.WarmedH.refl U) (fun _ _ _ => rfl) h2⟩
theorem MX.ofWG {y : MethodName} {maxL fr lo mc ms : Nat} {av : List Value} {T' : Tx} {V' : Vx} {r : Option Value} (hy : plainName y.cls = true) (hL : lv_args 0 av = L) (hS : (lg_sl av).length ≤ maxL)
    (body : ∀ (p : Program) (e : Env) (s : State) (m : MethodId) (below : List Frame) (meth : Method) (c : Code), GX p s m meth c cc maxL ret y.cls y.name D ca b → s.heap.size = b + tp T → SF b adK adV s s.heap → WG p l e ({ frames := fr, cells := mc, slots := ms, locals := lo } : Room) s m av.toArray below meth c D ca b maxL (MQ below (GQc D ca b r T' V') av.toArray s mc ms (fun q : Nat => b ≤ q)) 0 0 T V 0 L []) : MX l y cc maxL ret fr lo mc ms D ca b adK adV av T V r T' V' := by
  refine Met.ofW (cc := cc) (maxL := maxL) (ret := ret) hy rfl ?_
  intro p e s m args below meth c s₁ B hml hv
  obtain ⟨⟨rfl, hTB, hK, hP, hsz, h99⟩, hSF⟩ := hv
  have hl := lv_entry av (n := maxL) hS
  rw [hL] at hl
  rw [lg_entry_eq]
  exact body p e s m below meth c ⟨B.exec, B.bytes, hml, findClass_of_methodNamed B.named, hTB, hK, B.returns, B.notSynchronized, by omega, (name_of_methodNamed B.named B.method).1⟩ hsz hSF s.heap [] _ ⟨hP, by omega, h99, va_S.rf⟩ hl
theorem g_ldcS (G : GX p s m meth c cc nL ret "RebusSigns" mn D ca b) (SX : SF b adK adV s s.heap) (hdg : decode cc pc = .ok (.ldc 235, 2)) (k : WG p l e R s m args below meth c D ca b nL Q cells slots T V (pc + 2) L (.ref adK :: st)) : WG p l e R s m args below meth c D ca b nL Q cells slots T V pc L st :=
  fun H locs ls hW hl => va_ldcS G.1 G.2.1 G.2.2.2.1 SX.1 hdg (k H locs ls hW hl)
theorem g_safter {r : Option Value} {rest : List Value} {H : Heap} {locs : List Loc} {ls : Array Slot} {av : Array Value} (hW : GW D ca b T V s.heap cells H locs) (hl : lv_has ls nL L)
    (run : va_Run p l e R s m args below meth c H locs cells slots 0 0 (F0 m pc ls st) rest (SQc r av) (fun q : Nat => b ≤ q)) (k : WG p l e R s m args below meth c D ca b nL Q cells slots T V (pc + 3) L (r.toList ++ rest)) : W p l e R s m args below meth c H locs cells slots Q (F0 m pc ls st) := by
  intro T0 hT X
  obtain ⟨v, st₀, t, T1, Lc, h0, X', hLc, e1, e2, ⟨hv, hh⟩, stp⟩ := run T0 hT X
  cases hv
  obtain ⟨t2, a1, b1⟩ := k H (locs ++ Lc) ls ⟨hW.1, hW.2.1, hW.2.2.1, hW.2.2.2.1, hW.2.2.2.2.1, fun q hq => by
      rcases List.mem_append.mp hq with h | h
      · exact hW.2.2.2.2.2 q h
      · exact hLc q h⟩ hl T1 (by rw [e1, hh, h0]) X'
  exact ⟨t2, stp t2 a1, b1⟩
theorem g_strLen (G : GX p s m meth c cc nL ret own mn D ca b) (SX : SF b adK adV s s.heap) {index : Nat} (hin : (Cond.instanceMethod yJ0_length_8abf5).before args s = true) (hsel : (Cond.selects "java/lang/String" yJ0_length_8abf5 yJ0_length_8abf5).before args s = true) (hlink : (Cond.methodLink own index yJ0_length_8abf5).before args s = true) (hcat : (st.map fun v => v.category).sum ≤ 8) (hR : 2 ≤ R.frames ∧ 40 ≤ R.locals) (hf : cells ≤ R.cells ∧ slots ≤ R.slots) (hdg : decode cc pc = .ok (.invokevirtual index, 3)) (k : WG p l e R s m args below meth c D ca b nL Q cells slots T V (pc + 3) L (.int 106 :: st)) : WG p l e R s m args below meth c D ca b nL Q cells slots T V pc L (.ref adK :: st) := by
  intro H locs ls hW hl
  have hB := mb_Slen G.2.2.2.2.1
  exact g_safter hW hl (va_runV (As := []) (rest := st) (Ts := []) (C := "java/lang/String") ⟨G.1, G.2.1, G.2.2.1, G.2.2.2.1, fun _ h => by cases h⟩ (c_Slen l b adK adV) ⟨⟨rfl, rfl, hR.1, hR.2, fun w hw a' U hWm => (by rw [List.mem_singleton.mp hw]; exact hB.1 a' U hWm), List.mem_singleton.mpr rfl, hB.1 args s (State.WarmedH.refl s), hB.2.1 args, hB.2.2.1, hB.2.2.2, hlink⟩, hin, hsel⟩ ⟨SPc_blind, vk_recv (i := 0) SX.2.1 (by decide) hW.2.2.2, fun U hU hWm => ⟨rfl, TB.warm hWm G.2.2.2.2.1, by rw [hU]; exact SF.warm hWm hW.2.2.2.2.1 SX⟩⟩ rfl rfl hl.1 rfl (lv_room hcat) hdg hf) k
theorem g_strAt (G : GX p s m meth c cc nL ret own mn D ca b) (SX : SF b adK adV s s.heap) {index : Nat} {i : Int32} (hi : inb i 106 = true) (hin : (Cond.instanceMethod yJ0_charAt_5068e).before args s = true) (hsel : (Cond.selects "java/lang/String" yJ0_charAt_5068e yJ0_charAt_5068e).before args s = true) (hlink : (Cond.methodLink own index yJ0_charAt_5068e).before args s = true) (hcat : (st.map fun v => v.category).sum ≤ 8) (hR : 4 ≤ R.frames ∧ 85 ≤ R.locals) (hf : cells ≤ R.cells ∧ slots ≤ R.slots) (hdg : decode cc pc = .ok (.invokevirtual index, 3)) (k : WG p l e R s m args below meth c D ca b nL Q cells slots T V (pc + 3) L (.int (ftc i) :: st)) : WG p l e R s m args below meth c D ca b nL Q cells slots T V pc L (.int i :: .ref adK :: st) := by
  intro H locs ls hW hl
  have hB := mb_Scha G.2.2.2.2.1
  exact g_safter hW hl (va_runV (As := [.int i]) (rest := st) (Ts := []) (C := "java/lang/String") ⟨G.1, G.2.1, G.2.2.1, G.2.2.2.1, fun _ h => by cases h⟩ (c_Scha l b adK adV hi) ⟨⟨rfl, rfl, hR.1, hR.2, fun w hw a' U hWm => (by rw [List.mem_singleton.mp hw]; exact hB.1 a' U hWm), List.mem_singleton.mpr rfl, hB.1 args s (State.WarmedH.refl s), hB.2.1 args, hB.2.2.1, hB.2.2.2, hlink⟩, hin, hsel⟩ ⟨SPc_blind, vk_recv (i := 0) SX.2.1 (by decide) hW.2.2.2, fun U hU hWm => ⟨rfl, TB.warm hWm G.2.2.2.2.1, by rw [hU]; exact SF.warm hWm hW.2.2.2.2.1 SX⟩⟩ rfl rfl hl.1 rfl (lv_room hcat) hdg hf) k
theorem g_callSX {y : MethodName} {ycc : ByteArray} {ymax fr lo mc ms index : Nat} {yret : Option FieldType} {rest : List Value} {r : Option Value} {T' : Tx} {V' : Vx} (G : GX p s m meth c cc nL ret own mn D ca b) (SX : SF b adK adV s s.heap) (hM : MX l y ycc ymax yret fr lo mc ms D ca b adK adV [] T V r T' V') (hB : MB y ycc ymax yret 0 s) (hstt : (Cond.static y).before args s = true) (hlink : (Cond.methodLink own index y).before args s = true) (hst : st = rest) (hcat : (rest.map fun v => v.category).sum ≤ 8) (hR : fr + 1 ≤ R.frames ∧ 8 + (ymax + 11) + lo ≤ R.locals) (hf : cells + mc ≤ R.cells ∧ slots + ms ≤ R.slots) (hmc : tp T' = tp T + mc) {st2 : List Value} (hst2 : r.toList ++ rest = st2) (hdg : decode cc pc = .ok (.invokestatic index, 3))
    (k : WG p l e R s m args below meth c D ca b nL Q (cells + mc) (slots + ms) T' V' (pc + 3) L st2) : WG p l e R s m args below meth c D ca b nL Q cells slots T V pc L st := by
  subst hst2
  intro H locs ls hW hl
  refine W_sz fun hsz => ?_
  have hlow := GW_low hW G.2.2.2.2.2.2.2.2.1
  have hE := hW.2.1
  have hH : H.size = b + tp T := by omega
  exact g_after (y := y) G hW hl hH hmc (va_runS (As := []) (rest := rest) (Ts := []) ⟨G.1, G.2.1, G.2.2.1, G.2.2.2.1, fun _ h => by cases h⟩ hM ⟨⟨rfl, rfl, hR.1, hR.2, fun w hw a' U hWm => (by rw [List.mem_singleton.mp hw]; exact hB.1 a' U hWm), List.mem_singleton.mpr rfl, hB.1 args s (State.WarmedH.refl s), hB.2.1 args, hB.2.2.1, hB.2.2.2, hlink⟩, hstt⟩ ⟨GPx_blind, fun U hU hWm => ⟨⟨rfl, TB.warm hWm G.2.2.2.2.1, va_K.moved hWm.alike G.2.2.2.2.2.1, by rw [hU]; exact hW.1, by rw [hU]; exact hH, hW.2.2.1⟩, by rw [hU]; exact SF.warm hWm hW.2.2.2.2.1 SX⟩⟩ rfl rfl hl.1 hst (lv_room hcat) hdg hf) k
theorem g_callIX {y : MethodName} {ycc : ByteArray} {ymax fr lo mc ms index a : Nat} {rest : List Value} {r : Option Value} {T' : Tx} {V' : Vx} (G : GX p s m meth c cc nL ret own mn D ca b) (SX : SF b adK adV s s.heap) (hM : MX l y ycc ymax none fr lo mc ms D ca b adK adV [rv b (some a)] T V r T' V') (hB : MB y ycc ymax none 0 s) (hin : (Cond.instanceMethod y).before args s = true) (hlink : (Cond.methodLink own index y).before args s = true) (hy1 : y.name = "<init>") (hst : st = rv b (some a) :: rest) (hcat : (rest.map fun v => v.category).sum ≤ 8) (hR : fr + 1 ≤ R.frames ∧ 8 + (ymax + 11) + lo ≤ R.locals) (hf : cells + mc ≤ R.cells ∧ slots + ms ≤ R.slots) (hmc : tp T' = tp T + mc) {st2 : List Value} (hst2 : r.toList ++ rest = st2) (hdg : decode cc pc = .ok (.invokespecial index, 3))
    (k : WG p l e R s m args below meth c D ca b nL Q (cells + mc) (slots + ms) T' V' (pc + 3) L st2) : WG p l e R s m args below meth c D ca b nL Q cells slots T V pc L st := by
  subst hst2
  intro H locs ls hW hl
  refine W_sz fun hsz => ?_
  have hlow := GW_low hW G.2.2.2.2.2.2.2.2.1
  have hE := hW.2.1
  have hH : H.size = b + tp T := by omega
  exact g_after (y := y) G hW hl hH hmc (va_runI (As := []) (rest := rest) (Ts := []) ⟨G.1, G.2.1, G.2.2.1, G.2.2.2.1, fun _ h => by cases h⟩ hM ⟨⟨rfl, rfl, hR.1, hR.2, fun w hw a' U hWm => (by rw [List.mem_singleton.mp hw]; exact hB.1 a' U hWm), List.mem_singleton.mpr rfl, hB.1 args s (State.WarmedH.refl s), hB.2.1 args, hB.2.2.1, hB.2.2.2, hlink⟩, hy1, hin⟩ ⟨GPx_blind, fun U hU hWm => ⟨⟨rfl, TB.warm hWm G.2.2.2.2.1, va_K.moved hWm.alike G.2.2.2.2.2.1, by rw [hU]; exact hW.1, by rw [hU]; exact hH, hW.2.2.1⟩, by rw [hU]; exact SF.warm hWm hW.2.2.2.2.1 SX⟩⟩ rfl rfl hl.1 hst (lv_room hcat) hdg hf) k
end SRW
