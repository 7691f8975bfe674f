def FTX : String := "p0,bee;p1,leaf;p2,eye;p3,can;sn;st;sb;sl;m4;m1;w4,beleaf;w1,leaf;w4,canoe;w3,can;w5,cant;w2,bee;w0,bee;k1;"
def ftb : List Int32 := [112, 48, 44, 98, 101, 101, 59, 112, 49, 44, 108, 101, 97, 102, 59, 112, 50, 44, 101, 121, 101, 59, 112, 51, 44, 99, 97, 110, 59, 115, 110, 59, 115, 116, 59, 115, 98, 59, 115, 108, 59, 109, 52, 59, 109, 49, 59, 119, 52, 44, 98, 101, 108, 101, 97, 102, 59, 119, 49, 44, 108, 101, 97, 102, 59, 119, 52, 44, 99, 97, 110, 111, 101, 59, 119, 51, 44, 99, 97, 110, 59, 119, 53, 44, 99, 97, 110, 116, 59, 119, 50, 44, 98, 101, 101, 59, 119, 48, 44, 98, 101, 101, 59, 107, 49, 59]
/-- the char at a place of the first text -/
def ftc (i : Int32) : Int32 := (((ftb.getD i.toNatClampNeg 0) &&& 255).toUInt32 % 65536).toInt32
/-- the first text's String, and the statics that its methods read -/
def SF (b adK adV : Nat) (U : State) (H : Heap) : Prop :=
  vk_R "RebusSigns" 235 FTX adK U ∧ vk_S 1 [106] [ftb] (fun _ => adK) (fun _ => adV) (fun q : Nat => b ≤ q) U H ∧ va_Z "java/lang/String" "COMPACT_STRINGS" "Z" (.int 1) (fun q : Nat => b ≤ q) U H ∧ va_Zq "jdk/internal/util/Preconditions" "SIOOBE_FORMATTER" "Ljava/util/function/BiFunction;" (fun q : Nat => b ≤ q) U H
theorem SF.warm {b adK adV : Nat} {s U : State} {H H1 : Heap} (hW : s.WarmedH U.vm) (hq : ∀ a : Nat, a < H.size → ¬ b ≤ a → H1[a]? = H[a]?) (h : SF b adK adV s H) : SF b adK adV U H1 :=
  ⟨vk_R.warm hW h.1, vk_S.moved hW.alike (vk_S.kept h.2.1 hq), va_Z.moved hW.alike (va_Z.kept h.2.2.1 hq), va_Zq.moved hW.alike (va_Zq.kept h.2.2.2 hq)⟩
def SPc (b adK adV : Nat) (av : List Value) : Array Value → State → Prop := fun v U => v = av.toArray ∧ TB U ∧ SF b adK adV U U.heap
def SQc (r : Option Value) : Array Value → State → Outcome → State → Prop := fun _ st o t => o = .returned r ∧ t.heap = st.heap
def MS (l : Launch) (y : MethodName) (cc : ByteArray) (maxL : Nat) (ret : Option FieldType) (fr lo : Nat) (b adK adV : Nat) (av : List Value) (r : Option Value) : Prop :=
  Met l y [.code y cc maxL ret] ({ frames := fr, cells := 0, slots := 0, locals := lo } : Room) (SPc b adK adV av) (SQc r) 0 0 (fun q : Nat => b ≤ q)
theorem SPc_blind {b adK adV : Nat} {av : List Value} : FrameBlind (SPc b adK adV av) := by
  rintro a U g mk ⟨h1, h2, h3⟩
  exact ⟨h1, TB.warm (U := U.calling g mk a) (State.WarmedH.refl U) h2, SF.warm (U := U.calling g mk a) (State.WarmedH.refl U) (fun _ _ _ => rfl) h3⟩
def SG (p : Program) (s : State) (m : MethodId) (meth : Method) (c : Code) (cc : ByteArray) (nL : Nat) (ret : Option FieldType) (own : String) (b adK adV : Nat) : Prop :=
  p.tables.exec = Jvm.exec ∧ c.code = cc ∧ c.maxLocals = nL ∧ s.vm.findClass own = some m.cls ∧ TB s ∧ SF b adK adV s s.heap ∧ meth.sig.returnType = ret ∧ meth.locks = false
def WS (p : Program) (l : Launch) (e : Env) (R : Room) (s : State) (m : MethodId) (args : Array Value) (below : List Frame) (meth : Method) (c : Code) (b nL : Nat) (Q : State → Prop) (pc : Nat) (L : List (Nat × Value)) (st : List Value) : Prop :=
  ∀ (locs : List Loc) (ls : Array Slot), (∀ q ∈ locs, b ≤ q.base) → lv_has ls nL L → W p l e R s m args below meth c s.heap locs 0 0 Q (F0 m pc ls st)
theorem sS {b : Nat} {H : Heap} {locs : List Loc} (h : ∀ q ∈ locs, b ≤ q.base) : va_S (fun q : Nat => b ≤ q) H H locs := ⟨Nat.le_refl _, fun _ _ _ => rfl, h⟩
section SR
variable {p : Program} {l : Launch} {e : Env} {R : Room} {s : State} {m : MethodId} {args : Array Value} {below : List Frame} {meth : Method} {c : Code} {b nL adK adV : Nat} {Q : State → Prop} {pc : Nat} {L : List (Nat × Value)} {st : List Value} {cc : ByteArray} {ret : Option FieldType} {own : String}
theorem MS.ofW {y : MethodName} {maxL fr lo : Nat} {av : List Value} {r : Option Value} (hy : plainName y.cls = true) (hL : lv_args 0 av = L) (hS : (lg_sl av).length ≤ maxL)
    (body : ∀ (p : Program) (e : Env) (s : State) (m : MethodId) (below : List Frame) (meth : Method) (c : Code), SG p s m meth c cc maxL ret y.cls b adK adV → WS p l e ({ frames := fr, cells := 0, slots := 0, locals := lo } : Room) s m av.toArray below meth c b maxL (MQ below (SQc r) av.toArray s 0 0 (fun q : Nat => b ≤ q)) 0 L []) : MS l y cc maxL ret fr lo b adK adV av r := by
  refine Met.ofW (cc := cc) (maxL := maxL) (ret := ret) hy rfl ?_
  intro p e s m args below meth c s₁ B hml hv
  obtain ⟨rfl, hTB, hSF⟩ := hv
  have hl := lv_entry av (n := maxL) hS
  rw [hL] at hl
  rw [lg_entry_eq]
  exact body p e s m below meth c ⟨B.exec, B.bytes, hml, findClass_of_methodNamed B.named, hTB, hSF, B.returns, B.notSynchronized⟩ [] _ (fun _ h => by cases h) hl
theorem s_aload_n (G : SG p s m meth c cc nL ret own b adK adV) {kk : Fin 4} {a : Nat} (hdg : decode cc pc = .ok (.aload_n kk, 1)) (j : Nat) (hj : L[j]? = some ((kk : Nat), .ref a)) (k : WS p l e R s m args below meth c b nL Q (pc + 1) L (.ref a :: st)) : WS p l e R s m args below meth c b nL Q pc L (st) :=
  fun locs ls hL hl => lv_aload_n G.1 G.2.1 hdg rfl (lv_at hl j hj) (k locs ls hL hl)
theorem s_iload_n (G : SG p s m meth c cc nL ret own b adK adV) {kk : Fin 4} {x : Int32} (hdg : decode cc pc = .ok (.iload_n kk, 1)) (j : Nat) (hj : L[j]? = some ((kk : Nat), .int x)) (k : WS p l e R s m args below meth c b nL Q (pc + 1) L (.int x :: st)) : WS p l e R s m args below meth c b nL Q pc L (st) :=
  fun locs ls hL hl => lv_iload_n G.1 G.2.1 hdg rfl (lv_at hl j hj) (k locs ls hL hl)
theorem s_iconst (G : SG p s m meth c cc nL ret own b adK adV) {n : Int} {v : Int32} (hdg : decode cc pc = .ok (.iconst n, 1)) (hv : Int32.ofInt n = v) (k : WS p l e R s m args below meth c b nL Q (pc + 1) L (.int v :: st)) : WS p l e R s m args below meth c b nL Q pc L (st) :=
  fun locs ls hL hl => lv_iconst G.1 G.2.1 hdg hv (k locs ls hL hl)
theorem s_sipush (G : SG p s m meth c cc nL ret own b adK adV) {n : Int} {v : Int32} (hdg : decode cc pc = .ok (.sipush n, 3)) (hv : (Int16.ofInt n).toInt32 = v) (k : WS p l e R s m args below meth c b nL Q (pc + 3) L (.int v :: st)) : WS p l e R s m args below meth c b nL Q pc L (st) :=
  fun locs ls hL hl => lv_sipush G.1 G.2.1 hdg hv (k locs ls hL hl)
theorem s_iand (G : SG p s m meth c cc nL ret own b adK adV) {x y : Int32} (hdg : decode cc pc = .ok (.iand, 1))  (k : WS p l e R s m args below meth c b nL Q (pc + 1) L (.int (x &&& y) :: st)) : WS p l e R s m args below meth c b nL Q pc L (.int y :: .int x :: st) :=
  fun locs ls hL hl => lv_iand G.1 G.2.1 hdg (k locs ls hL hl)
theorem s_ishr (G : SG p s m meth c cc nL ret own b adK adV) {x y : Int32} (hdg : decode cc pc = .ok (.ishr, 1))  (k : WS p l e R s m args below meth c b nL Q (pc + 1) L (.int (x >>> (y &&& 31)) :: st)) : WS p l e R s m args below meth c b nL Q pc L (.int y :: .int x :: st) :=
  fun locs ls hL hl => lv_ishr G.1 G.2.1 hdg (k locs ls hL hl)
theorem s_i2c (G : SG p s m meth c cc nL ret own b adK adV) {x : Int32} (hdg : decode cc pc = .ok (.i2c, 1))  (k : WS p l e R s m args below meth c b nL Q (pc + 1) L (.int (x.toUInt32 % 65536).toInt32 :: st)) : WS p l e R s m args below meth c b nL Q pc L (.int x :: st) :=
  fun locs ls hL hl => lv_i2c G.1 G.2.1 hdg rfl (k locs ls hL hl)
theorem s_pop (G : SG p s m meth c cc nL ret own b adK adV) {x : Int32} (hdg : decode cc pc = .ok (.pop, 1))  (k : WS p l e R s m args below meth c b nL Q (pc + 1) L (st)) : WS p l e R s m args below meth c b nL Q pc L (.int x :: st) :=
  fun locs ls hL hl => lv_pop G.1 G.2.1 hdg rfl (k locs ls hL hl)
theorem s_goto (G : SG p s m meth c cc nL ret own b adK adV) {off : Int} (tgt : Nat) (hdg : decode cc pc = .ok (.goto off, 3)) (ht : (pc : Int) + off = (tgt : Int)) (k : WS p l e R s m args below meth c b nL Q tgt L st) : WS p l e R s m args below meth c b nL Q pc L st :=
  fun locs ls hL hl => lv_goto G.1 G.2.1 hdg ht (k locs ls hL hl)
theorem s_if_eq (G : SG p s m meth c cc nL ret own b adK adV) {x : Int32} {off : Int} (tgt : Nat) (hdg : decode cc pc = .ok (.ifCond .eq off, 3)) (ht : (pc : Int) + off = (tgt : Int)) (kt : x = 0 → WS p l e R s m args below meth c b nL Q tgt L st) (kf : ¬ x = 0 → WS p l e R s m args below meth c b nL Q (pc + 3) L st) : WS p l e R s m args below meth c b nL Q pc L (.int x :: st) :=
  fun locs ls hL hl => lv_if_eq G.1 G.2.1 hdg ht (fun h => kt h locs ls hL hl) (fun h => kf h locs ls hL hl)
theorem s_if_ne (G : SG p s m meth c cc nL ret own b adK adV) {x : Int32} {off : Int} (tgt : Nat) (hdg : decode cc pc = .ok (.ifCond .ne off, 3)) (ht : (pc : Int) + off = (tgt : Int)) (kt : ¬ x = 0 → WS p l e R s m args below meth c b nL Q tgt L st) (kf : x = 0 → WS p l e R s m args below meth c b nL Q (pc + 3) L st) : WS p l e R s m args below meth c b nL Q pc L (.int x :: st) :=
  fun locs ls hL hl => lv_if_ne G.1 G.2.1 hdg ht (fun h => kt h locs ls hL hl) (fun h => kf h locs ls hL hl)
theorem s_if_lt (G : SG p s m meth c cc nL ret own b adK adV) {x : Int32} {off : Int} (tgt : Nat) (hdg : decode cc pc = .ok (.ifCond .lt off, 3)) (ht : (pc : Int) + off = (tgt : Int)) (kt : x < 0 → WS p l e R s m args below meth c b nL Q tgt L st) (kf : ¬ x < 0 → WS p l e R s m args below meth c b nL Q (pc + 3) L st) : WS p l e R s m args below meth c b nL Q pc L (.int x :: st) :=
  fun locs ls hL hl => lv_if_lt G.1 G.2.1 hdg ht (fun h => kt h locs ls hL hl) (fun h => kf h locs ls hL hl)
theorem s_icmp_lt (G : SG p s m meth c cc nL ret own b adK adV) {x y : Int32} {off : Int} (tgt : Nat) (hdg : decode cc pc = .ok (.if_icmp .lt off, 3)) (ht : (pc : Int) + off = (tgt : Int)) (kt : x < y → WS p l e R s m args below meth c b nL Q tgt L st) (kf : ¬ x < y → WS p l e R s m args below meth c b nL Q (pc + 3) L st) : WS p l e R s m args below meth c b nL Q pc L (.int y :: .int x :: st) :=
  fun locs ls hL hl => lv_icmp_lt G.1 G.2.1 hdg ht (fun h => kt h locs ls hL hl) (fun h => kf h locs ls hL hl)
theorem s_coder (G : SG p s m meth c cc nL ret own b adK adV) {index : Nat} (hlink : (Cond.fieldLink own index "java/lang/String" "coder" "B").before args s = true) (hdg : decode cc pc = .ok (.getfield index, 3)) (k : WS p l e R s m args below meth c b nL Q (pc + 3) L (.int 0 :: st)) : WS p l e R s m args below meth c b nL Q pc L (.ref adK :: st) :=
  fun locs ls hL hl => vk_getf G.1 G.2.1 (G.2.2.2.2.2.1.2.1.1 0 (by decide)).2.1 (sS hL) G.2.2.2.1 hlink (fun _ h => h) hdg (k locs ls hL hl)
theorem s_value (G : SG p s m meth c cc nL ret own b adK adV) {index : Nat} (hlink : (Cond.fieldLink own index "java/lang/String" "value" "[B").before args s = true) (hdg : decode cc pc = .ok (.getfield index, 3)) (k : WS p l e R s m args below meth c b nL Q (pc + 3) L (.ref adV :: st)) : WS p l e R s m args below meth c b nL Q pc L (.ref adK :: st) :=
  fun locs ls hL hl => vk_getf G.1 G.2.1 (G.2.2.2.2.2.1.2.1.1 0 (by decide)).2.2.1 (sS hL) G.2.2.2.1 hlink (fun _ h => h) hdg (k locs ls hL hl)
theorem s_compact (G : SG p s m meth c cc nL ret own b adK adV) {index : Nat} (hlink : (Cond.fieldLink own index "java/lang/String" "COMPACT_STRINGS" "Z").before args s = true) (hdg : decode cc pc = .ok (.getstatic index, 3)) (k : WS p l e R s m args below meth c b nL Q (pc + 3) L (.int 1 :: st)) : WS p l e R s m args below meth c b nL Q pc L st :=
  fun locs ls hL hl => va_gets G.1 G.2.1 G.2.2.2.2.2.1.2.2.1 (sS hL) G.2.2.2.1 hlink (fun _ h => h) hdg (k locs ls hL hl)
theorem s_siob (G : SG p s m meth c cc nL ret own b adK adV) {index : Nat} (hlink : (Cond.fieldLink own index "jdk/internal/util/Preconditions" "SIOOBE_FORMATTER" "Ljava/util/function/BiFunction;").before args s = true) (hdg : decode cc pc = .ok (.getstatic index, 3)) (k : ∀ v : Value, (v = .null ∨ ∃ a, v = .ref a) → WS p l e R s m args below meth c b nL Q (pc + 3) L (v :: st)) : WS p l e R s m args below meth c b nL Q pc L st := by
  intro locs ls hL hl
  rcases G.2.2.2.2.2.1.2.2.2 with h | ⟨t, h⟩
  · exact va_gets G.1 G.2.1 h (sS hL) G.2.2.2.1 hlink (fun _ h => h) hdg (k .null (Or.inl rfl) locs ls hL hl)
  · exact va_gets G.1 G.2.1 h (sS hL) G.2.2.2.1 hlink (fun _ h => h) hdg (k (.ref t) (Or.inr ⟨t, rfl⟩) locs ls hL hl)
theorem s_tlen (G : SG p s m meth c cc nL ret own b adK adV) (hdg : decode cc pc = .ok (.arraylength, 1)) (k : WS p l e R s m args below meth c b nL Q (pc + 1) L (.int 106 :: st)) : WS p l e R s m args below meth c b nL Q pc L (.ref adV :: st) :=
  fun locs ls hL hl => va_tlen G.1 G.2.1 (G.2.2.2.2.2.1.2.1.1 0 (by decide)).2.2.2 (sS hL) (v := 106) (by decide) hdg (k locs ls hL hl)
theorem s_tb (G : SG p s m meth c cc nL ret own b adK adV) {i : Int32} (hin : vp_in i 106) (hdg : decode cc pc = .ok (.baload, 1)) (k : WS p l e R s m args below meth c b nL Q (pc + 1) L (.int (ftb.getD i.toNatClampNeg 0) :: st)) : WS p l e R s m args below meth c b nL Q pc L (.int i :: .ref adV :: st) :=
  fun locs ls hL hl => va_tb G.1 G.2.1 (G.2.2.2.2.2.1.2.1.1 0 (by decide)).2.2.2 (sS hL) hin (v := .int (ftb.getD i.toNatClampNeg 0)) rfl hdg (k locs ls hL hl)
theorem s_ret {ty : FieldType} (G : SG p s m meth c cc nL (some ty) own b adK adV) {v : Int32} (hn : narrow ty (.int v) = .int v) (hdg : decode cc pc = .ok (.ireturn, 1)) : WS p l e R s m args below meth c b nL (MQ below (SQc (some (.int v))) args s 0 0 (fun q : Nat => b ≤ q)) pc L [.int v] :=
  fun locs ls hL hl => W.zret G.1 G.2.1 G.2.2.2.2.2.2.1 hn (fun t ht _ => ⟨rfl, ht⟩) hL hdg G.2.2.2.2.2.2.2
theorem s_vret (G : SG p s m meth c cc nL none own b adK adV) (hdg : decode cc pc = .ok (.return_, 1)) : WS p l e R s m args below meth c b nL (MQ below (SQc none) args s 0 0 (fun q : Nat => b ≤ q)) pc L [] :=
  fun locs ls hL hl => W.vret G.1 G.2.1 G.2.2.2.2.2.2.1 (fun t ht _ => ⟨rfl, ht⟩) hL hdg G.2.2.2.2.2.2.2
theorem s_after {r : Option Value} {rest : List Value} {locs : List Loc} {ls : Array Slot} {av : Array Value} (hL : ∀ q ∈ locs, b ≤ q.base) (hl : lv_has ls nL L)
    (run : va_Run p l e R s m args below meth c s.heap locs 0 0 0 0 (F0 m pc ls st) rest (SQc r av) (fun q : Nat => b ≤ q)) (k : WS p l e R s m args below meth c b nL Q (pc + 3) L (r.toList ++ rest)) : W p l e R s m args below meth c s.heap locs 0 0 Q (F0 m pc ls st) := by
  intro T0 hT X
  obtain ⟨v, st₀, t, T1, Lc, h0, X', hLc, e1, e2, ⟨hv, hh⟩, stp⟩ := run T0 hT X
  cases hv
  obtain ⟨t2, a1, b1⟩ := k (locs ++ Lc) ls (fun q hq => by
      rcases List.mem_append.mp hq with h | h
      · exact hL q h
      · exact hLc q h) hl T1 (by rw [e1, hh, h0]) X'
  exact ⟨t2, stp t2 a1, b1⟩
theorem s_callS {y : MethodName} {ycc : ByteArray} {ymax n fr lo index : Nat} {yret : Option FieldType} {As rest : List Value} {r : Option Value} (G : SG p s m meth c cc nL ret own b adK adV) (hM : MS l y ycc ymax yret fr lo b adK adV As r) (hB : MB y ycc ymax yret n s) (hstt : (Cond.static y).before args s = true) (hlink : (Cond.methodLink own index y).before args s = true) (hn : As.length = n) (hst : st = As.reverse ++ rest) (hcat : (rest.map fun v => v.category).sum ≤ 8) (hR : fr + 1 ≤ R.frames ∧ 8 + (ymax + 11) + lo ≤ R.locals) {st2 : List Value} (hst2 : r.toList ++ rest = st2) (hdg : decode cc pc = .ok (.invokestatic index, 3)) (k : WS p l e R s m args below meth c b nL Q (pc + 3) L st2) : WS p l e R s m args below meth c b nL Q pc L st := by
  subst hst2
  intro locs ls hL hl
  exact s_after hL hl (va_runS (As := As) (rest := rest) (Ts := []) ⟨G.1, G.2.1, G.2.2.1, G.2.2.2.1, fun _ h => by cases h⟩ hM ⟨⟨rfl, rfl, hR.1, hR.2, fun w hw a' U hWm => (by rw [List.mem_singleton.mp hw]; exact hB.1 a' U hWm), List.mem_singleton.mpr rfl, hB.1 args s (State.WarmedH.refl s), hB.2.1 args, hB.2.2.1, hB.2.2.2, hlink⟩, hstt⟩ ⟨SPc_blind, fun U hU hWm => ⟨rfl, TB.warm hWm G.2.2.2.2.1, by rw [hU]; exact SF.warm hWm (fun _ _ _ => rfl) G.2.2.2.2.2.1⟩⟩ rfl hn hl.1 hst (lv_room hcat) hdg ⟨Nat.zero_le _, Nat.zero_le _⟩) k
theorem s_callV {y : MethodName} {ycc : ByteArray} {ymax n fr lo index : Nat} {yret : Option FieldType} {As rest : List Value} {r : Option Value} (G : SG p s m meth c cc nL ret own b adK adV) (hM : MS l y ycc ymax yret fr lo b adK adV (.ref adK :: As) r) (hB : MB y ycc ymax yret n s) (hin : (Cond.instanceMethod y).before args s = true) (hsel : (Cond.selects "java/lang/String" y y).before args s = true) (hlink : (Cond.methodLink own index y).before args s = true) (hn : As.length = n) (hst : st = As.reverse ++ .ref adK :: rest) (hcat : (rest.map fun v => v.category).sum ≤ 8) (hR : fr + 1 ≤ R.frames ∧ 8 + (ymax + 11) + lo ≤ R.locals) {st2 : List Value} (hst2 : r.toList ++ rest = st2) (hdg : decode cc pc = .ok (.invokevirtual index, 3)) (k : WS p l e R s m args below meth c b nL Q (pc + 3) L st2) : WS p l e R s m args below meth c b nL Q pc L st := by
  subst hst2
  intro locs ls hL hl
  exact s_after hL hl (va_runV (As := As) (rest := rest) (Ts := []) (C := "java/lang/String") ⟨G.1, G.2.1, G.2.2.1, G.2.2.2.1, fun _ h => by cases h⟩ hM ⟨⟨rfl, rfl, hR.1, hR.2, fun w hw a' U hWm => (by rw [List.mem_singleton.mp hw]; exact hB.1 a' U hWm), List.mem_singleton.mpr rfl, hB.1 args s (State.WarmedH.refl s), hB.2.1 args, hB.2.2.1, hB.2.2.2, hlink⟩, hin, hsel⟩ ⟨SPc_blind, vk_recv (i := 0) G.2.2.2.2.2.1.2.1 (by decide) (sS hL), fun U hU hWm => ⟨rfl, TB.warm hWm G.2.2.2.2.1, by rw [hU]; exact SF.warm hWm (fun _ _ _ => rfl) G.2.2.2.2.2.1⟩⟩ rfl hn hl.1 hst (lv_room hcat) hdg ⟨Nat.zero_le _, Nat.zero_le _⟩) k
end SR
theorem q186 {s : State} {args : Array Value} (h : TB s) : (Jvm.Cond.methodLink "java/lang/String" (335 : Nat) ({ cls := "java/lang/String", name := "coder", desc := "()B" } : Jvm.MethodName)).before args s = true := TB.w 186 (by decide +kernel) rfl h
theorem q187 {s : State} {args : Array Value} (h : TB s) : (Jvm.Cond.instanceMethod ({ cls := "java/lang/String", name := "coder", desc := "()B" } : Jvm.MethodName)).before args s = true := TB.w 187 (by decide +kernel) rfl h
theorem q188 {s : State} {args : Array Value} (h : TB s) : (Jvm.Cond.selects "java/lang/String" ({ cls := "java/lang/String", name := "coder", desc := "()B" } : Jvm.MethodName) ({ cls := "java/lang/String", name := "coder", desc := "()B" } : Jvm.MethodName)).before args s = true := TB.w 188 (by decide +kernel) rfl h
theorem q190 {s : State} {args : Array Value} (h : TB s) : (Jvm.Cond.fieldLink "java/lang/String" (38 : Nat) "java/lang/String" "COMPACT_STRINGS" "Z").before args s = true := TB.w 190 (by decide +kernel) rfl h
theorem q196 {s : State} {args : Array Value} (h : TB s) : (Jvm.Cond.methodLink "java/lang/String" (492 : Nat) ({ cls := "java/lang/String", name := "isLatin1", desc := "()Z" } : Jvm.MethodName)).before args s = true := TB.w 196 (by decide +kernel) rfl h
theorem q197 {s : State} {args : Array Value} (h : TB s) : (Jvm.Cond.instanceMethod ({ cls := "java/lang/String", name := "isLatin1", desc := "()Z" } : Jvm.MethodName)).before args s = true := TB.w 197 (by decide +kernel) rfl h
theorem q198 {s : State} {args : Array Value} (h : TB s) : (Jvm.Cond.selects "java/lang/String" ({ cls := "java/lang/String", name := "isLatin1", desc := "()Z" } : Jvm.MethodName) ({ cls := "java/lang/String", name := "isLatin1", desc := "()Z" } : Jvm.MethodName)).before args s = true := TB.w 198 (by decide +kernel) rfl h
theorem q200 {s : State} {args : Array Value} (h : TB s) : (Jvm.Cond.methodLink "java/lang/String" (495 : Nat) ({ cls := "java/lang/StringLatin1", name := "charAt", desc := "([BI)C" } : Jvm.MethodName)).before args s = true := TB.w 200 (by decide +kernel) rfl h
theorem q201 {s : State} {args : Array Value} (h : TB s) : (Jvm.Cond.static ({ cls := "java/lang/StringLatin1", name := "charAt", desc := "([BI)C" } : Jvm.MethodName)).before args s = true := TB.w 201 (by decide +kernel) rfl h
theorem q203 {s : State} {args : Array Value} (h : TB s) : (Jvm.Cond.methodLink "java/lang/StringLatin1" (9 : Nat) ({ cls := "java/lang/String", name := "checkIndex", desc := "(II)V" } : Jvm.MethodName)).before args s = true := TB.w 203 (by decide +kernel) rfl h
theorem q204 {s : State} {args : Array Value} (h : TB s) : (Jvm.Cond.static ({ cls := "java/lang/String", name := "checkIndex", desc := "(II)V" } : Jvm.MethodName)).before args s = true := TB.w 204 (by decide +kernel) rfl h
theorem q206 {s : State} {args : Array Value} (h : TB s) : (Jvm.Cond.fieldLink "java/lang/String" (1053 : Nat) "jdk/internal/util/Preconditions" "SIOOBE_FORMATTER" "Ljava/util/function/BiFunction;").before args s = true := TB.w 206 (by decide +kernel) rfl h
theorem q208 {s : State} {args : Array Value} (h : TB s) : (Jvm.Cond.methodLink "java/lang/String" (1059 : Nat) ({ cls := "jdk/internal/util/Preconditions", name := "checkIndex", desc := "(IILjava/util/function/BiFunction;)I" } : Jvm.MethodName)).before args s = true := TB.w 208 (by decide +kernel) rfl h
theorem q209 {s : State} {args : Array Value} (h : TB s) : (Jvm.Cond.static ({ cls := "jdk/internal/util/Preconditions", name := "checkIndex", desc := "(IILjava/util/function/BiFunction;)I" } : Jvm.MethodName)).before args s = true := TB.w 209 (by decide +kernel) rfl h
theorem q1067 {s : State} {args : Array Value} (h : TB s) : (Jvm.Cond.fieldLink "java/lang/String" (9 : Nat) "java/lang/String" "value" "[B").before args s = true := TB.w 1067 (by decide +kernel) rfl h
theorem q1068 {s : State} {args : Array Value} (h : TB s) : (Jvm.Cond.fieldLink "java/lang/String" (15 : Nat) "java/lang/String" "coder" "B").before args s = true := TB.w 1068 (by decide +kernel) rfl h
theorem mb_Scoder {s : State} (h : TB s) : MB yJ0_coder_7d493 cJ0_coder_7d493 1 (Option.some Jvm.ClassFile.FieldType.byte) 0 s := MB.mk 189 60 h (by decide +kernel) (by decide +kernel) (by decide +kernel)
theorem mb_Slat {s : State} (h : TB s) : MB yJ0_isLatin1_aae02 cJ0_isLatin1_aae02 1 (Option.some Jvm.ClassFile.FieldType.boolean) 0 s := MB.mk 199 60 h (by decide +kernel) (by decide +kernel) (by decide +kernel)
theorem mb_Spci {s : State} (h : TB s) : MB yJ3_checkIndex_8e157 cJ3_checkIndex_8e157 3 (Option.some Jvm.ClassFile.FieldType.int) 3 s := MB.mk 210 62 h (by decide +kernel) (by decide +kernel) (by decide +kernel)
theorem mb_Ssci {s : State} (h : TB s) : MB yJ0_checkIndex_df160 cJ0_checkIndex_df160 2 (Option.none : Option Jvm.ClassFile.FieldType) 2 s := MB.mk 205 60 h (by decide +kernel) (by decide +kernel) (by decide +kernel)
theorem mb_Slca {s : State} (h : TB s) : MB yJ1_charAt_3b067 cJ1_charAt_3b067 2 (Option.some Jvm.ClassFile.FieldType.char) 2 s := MB.mk 202 61 h (by decide +kernel) (by decide +kernel) (by decide +kernel)
theorem mb_Slen {s : State} (h : TB s) : MB yJ0_length_8abf5 cJ0_length_8abf5 1 (Option.some Jvm.ClassFile.FieldType.int) 0 s := MB.mk 185 60 h (by decide +kernel) (by decide +kernel) (by decide +kernel)
theorem mb_Scha {s : State} (h : TB s) : MB yJ0_charAt_5068e cJ0_charAt_5068e 2 (Option.some Jvm.ClassFile.FieldType.char) 1 s := MB.mk 195 60 h (by decide +kernel) (by decide +kernel) (by decide +kernel)
set_option maxHeartbeats 1000000 in
theorem c_Scoder (l : Launch) (b adK adV : Nat)   : MS l yJ0_coder_7d493 cJ0_coder_7d493 1 (Option.some Jvm.ClassFile.FieldType.byte) 0 0 b adK adV [.ref adK] (some (.int 0)) := by
  refine MS.ofW (L := [(0, .ref adK)]) (by decide +kernel) rfl (Nat.le_of_ble_eq_true rfl) (fun p e s m below meth c G => ?_)
  refine s_compact (pc := 0) G (q190 G.2.2.2.2.1) dJ0_coder_7d493_0 ?_
  refine s_if_eq (pc := 3) G 13 dJ0_coder_7d493_3 (by decide) (fun c => absurd c (by decide)) (fun _ => ?_)
  refine s_aload_n (pc := 6) G dJ0_coder_7d493_6 0 rfl ?_
  refine s_coder (pc := 7) G (q1068 G.2.2.2.2.1) dJ0_coder_7d493_7 ?_
  refine s_goto (pc := 10) G 14 dJ0_coder_7d493_10 (by decide) ?_
  exact s_ret (pc := 14) G (by decide +kernel) dJ0_coder_7d493_14
set_option maxHeartbeats 1000000 in
theorem c_Slat (l : Launch) (b adK adV : Nat)   : MS l yJ0_isLatin1_aae02 cJ0_isLatin1_aae02 1 (Option.some Jvm.ClassFile.FieldType.boolean) 0 0 b adK adV [.ref adK] (some (.int 1)) := by
  refine MS.ofW (L := [(0, .ref adK)]) (by decide +kernel) rfl (Nat.le_of_ble_eq_true rfl) (fun p e s m below meth c G => ?_)
  refine s_compact (pc := 0) G (q190 G.2.2.2.2.1) dJ0_isLatin1_aae02_0 ?_
  refine s_if_eq (pc := 3) G 17 dJ0_isLatin1_aae02_3 (by decide) (fun c => absurd c (by decide)) (fun _ => ?_)
  refine s_aload_n (pc := 6) G dJ0_isLatin1_aae02_6 0 rfl ?_
  refine s_coder (pc := 7) G (q1068 G.2.2.2.2.1) dJ0_isLatin1_aae02_7 ?_
  refine s_if_ne (pc := 10) G 17 dJ0_isLatin1_aae02_10 (by decide) (fun c => absurd rfl c) (fun _ => ?_)
  refine s_iconst (pc := 13) G (v := 1) dJ0_isLatin1_aae02_13 (by decide) ?_
  refine s_goto (pc := 14) G 18 dJ0_isLatin1_aae02_14 (by decide) ?_
  exact s_ret (pc := 18) G (by decide +kernel) dJ0_isLatin1_aae02_18
set_option maxHeartbeats 1000000 in
theorem c_Spci (l : Launch) (b adK adV : Nat) {i n : Int32} {v : Value} (h0 : ¬ i < 0) (h1 : i < n) (hv : v = .null ∨ ∃ a, v = .ref a) : MS l yJ3_checkIndex_8e157 cJ3_checkIndex_8e157 3 (Option.some Jvm.ClassFile.FieldType.int) 0 0 b adK adV [.int i, .int n, v] (some (.int i)) := by
  refine MS.ofW (L := [(0, .int i), (1, .int n), (2, v)]) (by decide +kernel) (by rcases hv with rfl | ⟨a, rfl⟩ <;> rfl) (by rcases hv with rfl | ⟨a, rfl⟩ <;> exact Nat.le_of_ble_eq_true rfl) (fun p e s m below meth c G => ?_)
  refine s_iload_n (pc := 0) G dJ3_checkIndex_8e157_0 0 rfl ?_
  refine s_if_lt (pc := 1) G 9 dJ3_checkIndex_8e157_1 (by decide) (fun c => absurd c h0) (fun _ => ?_)
  refine s_iload_n (pc := 4) G dJ3_checkIndex_8e157_4 0 rfl ?_
  refine s_iload_n (pc := 5) G dJ3_checkIndex_8e157_5 1 rfl ?_
  refine s_icmp_lt (pc := 6) G 16 dJ3_checkIndex_8e157_6 (by decide) (fun _ => ?_) (fun c => absurd h1 c)
  refine s_iload_n (pc := 16) G dJ3_checkIndex_8e157_16 0 rfl ?_
  exact s_ret (pc := 17) G rfl dJ3_checkIndex_8e157_17
set_option maxHeartbeats 1000000 in
theorem c_Ssci (l : Launch) (b adK adV : Nat) {i n : Int32} (h0 : ¬ i < 0) (h1 : i < n) : MS l yJ0_checkIndex_df160 cJ0_checkIndex_df160 2 (Option.none : Option Jvm.ClassFile.FieldType) 1 22 b adK adV [.int i, .int n] none := by
  refine MS.ofW (L := [(0, .int i), (1, .int n)]) (by decide +kernel) rfl (Nat.le_of_ble_eq_true rfl) (fun p e s m below meth c G => ?_)
  refine s_iload_n (pc := 0) G dJ0_checkIndex_df160_0 0 rfl ?_
  refine s_iload_n (pc := 1) G dJ0_checkIndex_df160_1 1 rfl ?_
  refine s_siob (pc := 2) G (q206 G.2.2.2.2.1) dJ0_checkIndex_df160_2 (fun v hv => ?_)
  refine s_callS (pc := 5) (As := [.int i, .int n, v]) (rest := []) (st2 := [.int i]) G (c_Spci l b adK adV h0 h1 hv) (mb_Spci G.2.2.2.2.1) (q209 G.2.2.2.2.1) (q208 G.2.2.2.2.1) rfl rfl (Nat.zero_le _) ⟨Nat.le_of_ble_eq_true rfl, Nat.le_of_ble_eq_true rfl⟩ rfl dJ0_checkIndex_df160_5 ?_
  refine s_pop (pc := 8) G dJ0_checkIndex_df160_8 ?_
  exact s_vret (pc := 9) G dJ0_checkIndex_df160_9
set_option maxHeartbeats 1000000 in
theorem c_Slca (l : Launch) (b adK adV : Nat) {i : Int32} (hi : inb i 106 = true) : MS l yJ1_charAt_3b067 cJ1_charAt_3b067 2 (Option.some Jvm.ClassFile.FieldType.char) 2 43 b adK adV [.ref adV, .int i] (some (.int (ftc i))) := by
  refine MS.ofW (L := [(0, .ref adV), (1, .int i)]) (by decide +kernel) rfl (Nat.le_of_ble_eq_true rfl) (fun p e s m below meth c G => ?_)
  have h0 : ¬ i < 0 := fun q => inb_e hi (Or.inl q)
  have h1 : i < 106 := by
    obtain ⟨j, hj, rfl⟩ := vp_in_of (inb_e hi) (by omega)
    exact nI_lt (b := 106) hj (by omega)
  refine s_iload_n (pc := 0) G dJ1_charAt_3b067_0 1 rfl ?_
  refine s_aload_n (pc := 1) G dJ1_charAt_3b067_1 0 rfl ?_
  refine s_tlen (pc := 2) G dJ1_charAt_3b067_2 ?_
  refine s_callS (pc := 3) (As := [.int i, .int 106]) (rest := []) (st2 := []) G (c_Ssci l b adK adV h0 h1) (mb_Ssci G.2.2.2.2.1) (q204 G.2.2.2.2.1) (q203 G.2.2.2.2.1) rfl rfl (Nat.zero_le _) ⟨Nat.le_of_ble_eq_true rfl, Nat.le_of_ble_eq_true rfl⟩ rfl dJ1_charAt_3b067_3 ?_
  refine s_aload_n (pc := 6) G dJ1_charAt_3b067_6 0 rfl ?_
  refine s_iload_n (pc := 7) G dJ1_charAt_3b067_7 1 rfl ?_
  refine s_tb (pc := 8) G (inb_e hi) dJ1_charAt_3b067_8 ?_
  refine s_sipush (pc := 9) G (v := 255) dJ1_charAt_3b067_9 (by decide) ?_
  refine s_iand (pc := 12) G dJ1_charAt_3b067_12 ?_
  refine s_i2c (pc := 13) G dJ1_charAt_3b067_13 ?_
  exact s_ret (pc := 14) G (pk_nc _) dJ1_charAt_3b067_14
set_option maxHeartbeats 1000000 in
theorem c_Slen (l : Launch) (b adK adV : Nat)   : MS l yJ0_length_8abf5 cJ0_length_8abf5 1 (Option.some Jvm.ClassFile.FieldType.int) 1 20 b adK adV [.ref adK] (some (.int 106)) := by
  refine MS.ofW (L := [(0, .ref adK)]) (by decide +kernel) rfl (Nat.le_of_ble_eq_true rfl) (fun p e s m below meth c G => ?_)
  refine s_aload_n (pc := 0) G dJ0_length_8abf5_0 0 rfl ?_
  refine s_value (pc := 1) G (q1067 G.2.2.2.2.1) dJ0_length_8abf5_1 ?_
  refine s_tlen (pc := 4) G dJ0_length_8abf5_4 ?_
  refine s_aload_n (pc := 5) G dJ0_length_8abf5_5 0 rfl ?_
  refine s_callV (pc := 6) (As := []) (rest := [.int 106]) (st2 := [.int 0, .int 106]) G (c_Scoder l b adK adV) (mb_Scoder G.2.2.2.2.1) (q187 G.2.2.2.2.1) (q188 G.2.2.2.2.1) (q186 G.2.2.2.2.1) rfl rfl (Nat.le_of_ble_eq_true rfl) ⟨Nat.le_of_ble_eq_true rfl, Nat.le_of_ble_eq_true rfl⟩ rfl dJ0_length_8abf5_6 ?_
  refine s_ishr (pc := 9) G dJ0_length_8abf5_9 ?_
  exact s_ret (pc := 10) (v := 106) G rfl dJ0_length_8abf5_10
set_option maxHeartbeats 1000000 in
theorem c_Scha (l : Launch) (b adK adV : Nat) {i : Int32} (hi : inb i 106 = true) : MS l yJ0_charAt_5068e cJ0_charAt_5068e 2 (Option.some Jvm.ClassFile.FieldType.char) 3 64 b adK adV [.ref adK, .int i] (some (.int (ftc i))) := by
  refine MS.ofW (L := [(0, .ref adK), (1, .int i)]) (by decide +kernel) rfl (Nat.le_of_ble_eq_true rfl) (fun p e s m below meth c G => ?_)
  refine s_aload_n (pc := 0) G dJ0_charAt_5068e_0 0 rfl ?_
  refine s_callV (pc := 1) (As := []) (rest := []) (st2 := [.int 1]) G (c_Slat l b adK adV) (mb_Slat G.2.2.2.2.1) (q197 G.2.2.2.2.1) (q198 G.2.2.2.2.1) (q196 G.2.2.2.2.1) rfl rfl (Nat.zero_le _) ⟨Nat.le_of_ble_eq_true rfl, Nat.le_of_ble_eq_true rfl⟩ rfl dJ0_charAt_5068e_1 ?_
  refine s_if_eq (pc := 4) G 16 dJ0_charAt_5068e_4 (by decide) (fun c => absurd c (by decide)) (fun _ => ?_)
  refine s_aload_n (pc := 7) G dJ0_charAt_5068e_7 0 rfl ?_
  refine s_value (pc := 8) G (q1067 G.2.2.2.2.1) dJ0_charAt_5068e_8 ?_
  refine s_iload_n (pc := 11) G dJ0_charAt_5068e_11 1 rfl ?_
  refine s_callS (pc := 12) (As := [.ref adV, .int i]) (rest := []) (st2 := [.int (ftc i)]) G (c_Slca l b adK adV hi) (mb_Slca G.2.2.2.2.1) (q201 G.2.2.2.2.1) (q200 G.2.2.2.2.1) rfl rfl (Nat.zero_le _) ⟨Nat.le_of_ble_eq_true rfl, Nat.le_of_ble_eq_true rfl⟩ rfl dJ0_charAt_5068e_12 ?_
  exact s_ret (pc := 15) G (pk_nc _) dJ0_charAt_5068e_15
