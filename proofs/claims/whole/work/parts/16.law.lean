/-! THE CLAIM OUT OF ONE WALK OF THE LAW'S BODY. Your part is whole_start (and what it stands on); all else here is the same for every law, but numbers. -/
def R_law : String := "RebusSignsLaw"
def lw_P (b : Addr) (xs : List Int32) (args : Array Value) (s : State) : Prop := args = #[.ref b] ∧ s.IntsAt b xs ∧ xs.length ≤ 1536 ∧ (Jvm.Cond.and given_1 narrow_1).before args s = true
def lw_Q (_ : Array Value) (s : State) (o : Outcome) (t : State) : Prop := o = .returned (some (.int 1)) ∧ Framed s o t [] 600000 7302250
def lw_Z (below : List Frame) (a : Array Value) (s : State) : State → Prop := fun t => ∃ o, t.status = .running ∧ Ended t below o ∧ lw_Q a s o t
/-- the law's own end, with 1 on the stack, nothing written that was there before, its room as the claim has it -/
theorem lw_ret {p : Program} {l : Launch} {e : Env} {s : State} {m : MethodId} {below : List Frame} {meth : Method} {c : Code} {b : Nat} (hx : p.tables.exec = Jvm.exec) (hb : c.code = code) (hr : meth.sig.returnType = ret) (hlocks : meth.locks = false) {pc : Nat} {H : Heap} {ls : Array Slot} (hdg : decode code pc = .ok (.ireturn, 1)) : W p l e room_1 s m #[Value.ref b] below meth c H [] 600000 7302250 (lw_Z below #[Value.ref b] s) (F0 m pc ls [.int 1]) := by
  intro T hT X
  obtain ⟨fs, hret, hrun, hended, hW, hframe⟩ := X.leave (v := some (.int 1)) (hlocks := hlocks) (fun h => by rw [hr] at h; cases h)
  have hmeth' : T.vm.method? m = some meth := X.method'
  refine ⟨T.setFrames fs, ?_, .returned (some (.int 1)), hrun, hended, rfl, ⟨_, rfl⟩, hW, hframe⟩
  jvm_step X.here [X.here.top, hx, hb, hdg, hmeth', hr, ret, narrow_b1]
  (try refine ⟨rfl, ?_⟩); (try refine ⟨rfl, ?_⟩)
  first | (intro acts; rw [hret _ acts rfl rfl rfl]) | rw [hret _ _ rfl rfl rfl]
  exact Steps.refl _
/-- what holds at the law's entry: the machine, the code, the tables' words (any of lw_tbl by 'hts w (by decide +kernel)'), the script of L ints xs at the cell b, what the Statement gives of the start (any of its parts by flat_of_before) -/
def lw_At (p : Program) (s : State) (m : MethodId) (meth : Method) (c : Code) (b L : Nat) (xs : Nat → Int32) : Prop :=
  p.tables.exec = Jvm.exec ∧ c.code = code ∧ meth.sig.returnType = ret ∧ c.maxLocals = 4 ∧ s.vm.findClass R_law = some m.cls ∧ (∀ w ∈ lw_tbl, w.before #[Value.ref b] s = true) ∧ va_X b L xs s s.heap ∧ b < s.heap.size ∧ meth.locks = false ∧ (Jvm.Cond.and given_1 narrow_1).before #[Value.ref b] s = true
theorem q53 {s : State} {args : Array Value} (h : TB s) : (Jvm.Cond.initialized "RebusSigns").before args s = true := TB.w 53 (by decide +kernel) rfl h
theorem q68 {s : State} {args : Array Value} (h : TB s) : (Jvm.Cond.initialized "RebusSignsModel").before args s = true := TB.w 68 (by decide +kernel) rfl h
theorem q71 {s : State} {args : Array Value} (h : TB s) : (Jvm.Cond.classLink "RebusSignsLaw" (7 : Nat) "RebusSigns").before args s = true := TB.w 71 (by decide +kernel) rfl h
theorem q72 {s : State} {args : Array Value} (h : TB s) : (Jvm.Cond.instantiable "RebusSigns" (8 : Nat)).before args s = true := TB.w 72 (by decide +kernel) rfl h
theorem q73 {s : State} {args : Array Value} (h : TB s) : (Jvm.Cond.methodLink "RebusSignsLaw" (9 : Nat) ({ cls := "RebusSigns", name := "<init>", desc := "()V" } : Jvm.MethodName)).before args s = true := TB.w 73 (by decide +kernel) rfl h
theorem q74 {s : State} {args : Array Value} (h : TB s) : (Jvm.Cond.instanceMethod ({ cls := "RebusSigns", name := "<init>", desc := "()V" } : Jvm.MethodName)).before args s = true := TB.w 74 (by decide +kernel) rfl h
theorem q424 {s : State} {args : Array Value} (h : TB s) : (Jvm.Cond.methodLink "RebusSignsLaw" (13 : Nat) ({ cls := "RebusSigns", name := "write", desc := "(I)I" } : Jvm.MethodName)).before args s = true := TB.w 424 (by decide +kernel) rfl h
theorem q425 {s : State} {args : Array Value} (h : TB s) : (Jvm.Cond.instanceMethod ({ cls := "RebusSigns", name := "write", desc := "(I)I" } : Jvm.MethodName)).before args s = true := TB.w 425 (by decide +kernel) rfl h
theorem q426 {s : State} {args : Array Value} (h : TB s) : (Jvm.Cond.selects "RebusSigns" ({ cls := "RebusSigns", name := "write", desc := "(I)I" } : Jvm.MethodName) ({ cls := "RebusSigns", name := "write", desc := "(I)I" } : Jvm.MethodName)).before args s = true := TB.w 426 (by decide +kernel) rfl h
theorem q433 {s : State} {args : Array Value} (h : TB s) : (Jvm.Cond.methodLink "RebusSignsLaw" (18 : Nat) ({ cls := "RebusSigns", name := "wipe", desc := "()I" } : Jvm.MethodName)).before args s = true := TB.w 433 (by decide +kernel) rfl h
theorem q434 {s : State} {args : Array Value} (h : TB s) : (Jvm.Cond.instanceMethod ({ cls := "RebusSigns", name := "wipe", desc := "()I" } : Jvm.MethodName)).before args s = true := TB.w 434 (by decide +kernel) rfl h
theorem q435 {s : State} {args : Array Value} (h : TB s) : (Jvm.Cond.selects "RebusSigns" ({ cls := "RebusSigns", name := "wipe", desc := "()I" } : Jvm.MethodName) ({ cls := "RebusSigns", name := "wipe", desc := "()I" } : Jvm.MethodName)).before args s = true := TB.w 435 (by decide +kernel) rfl h
theorem q438 {s : State} {args : Array Value} (h : TB s) : (Jvm.Cond.methodLink "RebusSignsLaw" (23 : Nat) ({ cls := "RebusSigns", name := "fault", desc := "()I" } : Jvm.MethodName)).before args s = true := TB.w 438 (by decide +kernel) rfl h
theorem q439 {s : State} {args : Array Value} (h : TB s) : (Jvm.Cond.instanceMethod ({ cls := "RebusSigns", name := "fault", desc := "()I" } : Jvm.MethodName)).before args s = true := TB.w 439 (by decide +kernel) rfl h
theorem q440 {s : State} {args : Array Value} (h : TB s) : (Jvm.Cond.selects "RebusSigns" ({ cls := "RebusSigns", name := "fault", desc := "()I" } : Jvm.MethodName) ({ cls := "RebusSigns", name := "fault", desc := "()I" } : Jvm.MethodName)).before args s = true := TB.w 440 (by decide +kernel) rfl h
theorem q442 {s : State} {args : Array Value} (h : TB s) : (Jvm.Cond.methodLink "RebusSignsLaw" (27 : Nat) ({ cls := "RebusSigns", name := "lay", desc := "()I" } : Jvm.MethodName)).before args s = true := TB.w 442 (by decide +kernel) rfl h
theorem q443 {s : State} {args : Array Value} (h : TB s) : (Jvm.Cond.instanceMethod ({ cls := "RebusSigns", name := "lay", desc := "()I" } : Jvm.MethodName)).before args s = true := TB.w 443 (by decide +kernel) rfl h
theorem q444 {s : State} {args : Array Value} (h : TB s) : (Jvm.Cond.selects "RebusSigns" ({ cls := "RebusSigns", name := "lay", desc := "()I" } : Jvm.MethodName) ({ cls := "RebusSigns", name := "lay", desc := "()I" } : Jvm.MethodName)).before args s = true := TB.w 444 (by decide +kernel) rfl h
theorem q458 {s : State} {args : Array Value} (h : TB s) : (Jvm.Cond.methodLink "RebusSignsLaw" (31 : Nat) ({ cls := "RebusSigns", name := "strike", desc := "(II)I" } : Jvm.MethodName)).before args s = true := TB.w 458 (by decide +kernel) rfl h
theorem q459 {s : State} {args : Array Value} (h : TB s) : (Jvm.Cond.instanceMethod ({ cls := "RebusSigns", name := "strike", desc := "(II)I" } : Jvm.MethodName)).before args s = true := TB.w 459 (by decide +kernel) rfl h
theorem q460 {s : State} {args : Array Value} (h : TB s) : (Jvm.Cond.selects "RebusSigns" ({ cls := "RebusSigns", name := "strike", desc := "(II)I" } : Jvm.MethodName) ({ cls := "RebusSigns", name := "strike", desc := "(II)I" } : Jvm.MethodName)).before args s = true := TB.w 460 (by decide +kernel) rfl h
theorem q483 {s : State} {args : Array Value} (h : TB s) : (Jvm.Cond.methodLink "RebusSignsLaw" (36 : Nat) ({ cls := "RebusSigns", name := "law", desc := "(I)I" } : Jvm.MethodName)).before args s = true := TB.w 483 (by decide +kernel) rfl h
theorem q484 {s : State} {args : Array Value} (h : TB s) : (Jvm.Cond.instanceMethod ({ cls := "RebusSigns", name := "law", desc := "(I)I" } : Jvm.MethodName)).before args s = true := TB.w 484 (by decide +kernel) rfl h
theorem q485 {s : State} {args : Array Value} (h : TB s) : (Jvm.Cond.selects "RebusSigns" ({ cls := "RebusSigns", name := "law", desc := "(I)I" } : Jvm.MethodName) ({ cls := "RebusSigns", name := "law", desc := "(I)I" } : Jvm.MethodName)).before args s = true := TB.w 485 (by decide +kernel) rfl h
theorem q495 {s : State} {args : Array Value} (h : TB s) : (Jvm.Cond.methodLink "RebusSignsLaw" (40 : Nat) ({ cls := "RebusSigns", name := "carve", desc := "(I)I" } : Jvm.MethodName)).before args s = true := TB.w 495 (by decide +kernel) rfl h
theorem q496 {s : State} {args : Array Value} (h : TB s) : (Jvm.Cond.instanceMethod ({ cls := "RebusSigns", name := "carve", desc := "(I)I" } : Jvm.MethodName)).before args s = true := TB.w 496 (by decide +kernel) rfl h
theorem q497 {s : State} {args : Array Value} (h : TB s) : (Jvm.Cond.selects "RebusSigns" ({ cls := "RebusSigns", name := "carve", desc := "(I)I" } : Jvm.MethodName) ({ cls := "RebusSigns", name := "carve", desc := "(I)I" } : Jvm.MethodName)).before args s = true := TB.w 497 (by decide +kernel) rfl h
theorem q511 {s : State} {args : Array Value} (h : TB s) : (Jvm.Cond.methodLink "RebusSignsLaw" (44 : Nat) ({ cls := "RebusSigns", name := "chip", desc := "()I" } : Jvm.MethodName)).before args s = true := TB.w 511 (by decide +kernel) rfl h
theorem q512 {s : State} {args : Array Value} (h : TB s) : (Jvm.Cond.instanceMethod ({ cls := "RebusSigns", name := "chip", desc := "()I" } : Jvm.MethodName)).before args s = true := TB.w 512 (by decide +kernel) rfl h
theorem q513 {s : State} {args : Array Value} (h : TB s) : (Jvm.Cond.selects "RebusSigns" ({ cls := "RebusSigns", name := "chip", desc := "()I" } : Jvm.MethodName) ({ cls := "RebusSigns", name := "chip", desc := "()I" } : Jvm.MethodName)).before args s = true := TB.w 513 (by decide +kernel) rfl h
theorem q523 {s : State} {args : Array Value} (h : TB s) : (Jvm.Cond.methodLink "RebusSignsLaw" (48 : Nat) ({ cls := "RebusSigns", name := "undo", desc := "()I" } : Jvm.MethodName)).before args s = true := TB.w 523 (by decide +kernel) rfl h
theorem q524 {s : State} {args : Array Value} (h : TB s) : (Jvm.Cond.instanceMethod ({ cls := "RebusSigns", name := "undo", desc := "()I" } : Jvm.MethodName)).before args s = true := TB.w 524 (by decide +kernel) rfl h
theorem q525 {s : State} {args : Array Value} (h : TB s) : (Jvm.Cond.selects "RebusSigns" ({ cls := "RebusSigns", name := "undo", desc := "()I" } : Jvm.MethodName) ({ cls := "RebusSigns", name := "undo", desc := "()I" } : Jvm.MethodName)).before args s = true := TB.w 525 (by decide +kernel) rfl h
theorem q543 {s : State} {args : Array Value} (h : TB s) : (Jvm.Cond.methodLink "RebusSignsLaw" (52 : Nat) ({ cls := "RebusSigns", name := "sign", desc := "(II)I" } : Jvm.MethodName)).before args s = true := TB.w 543 (by decide +kernel) rfl h
theorem q544 {s : State} {args : Array Value} (h : TB s) : (Jvm.Cond.instanceMethod ({ cls := "RebusSigns", name := "sign", desc := "(II)I" } : Jvm.MethodName)).before args s = true := TB.w 544 (by decide +kernel) rfl h
theorem q545 {s : State} {args : Array Value} (h : TB s) : (Jvm.Cond.selects "RebusSigns" ({ cls := "RebusSigns", name := "sign", desc := "(II)I" } : Jvm.MethodName) ({ cls := "RebusSigns", name := "sign", desc := "(II)I" } : Jvm.MethodName)).before args s = true := TB.w 545 (by decide +kernel) rfl h
theorem q588 {s : State} {args : Array Value} (h : TB s) : (Jvm.Cond.methodLink "RebusSignsLaw" (56 : Nat) ({ cls := "RebusSigns", name := "word", desc := "(II)I" } : Jvm.MethodName)).before args s = true := TB.w 588 (by decide +kernel) rfl h
theorem q589 {s : State} {args : Array Value} (h : TB s) : (Jvm.Cond.instanceMethod ({ cls := "RebusSigns", name := "word", desc := "(II)I" } : Jvm.MethodName)).before args s = true := TB.w 589 (by decide +kernel) rfl h
theorem q590 {s : State} {args : Array Value} (h : TB s) : (Jvm.Cond.selects "RebusSigns" ({ cls := "RebusSigns", name := "word", desc := "(II)I" } : Jvm.MethodName) ({ cls := "RebusSigns", name := "word", desc := "(II)I" } : Jvm.MethodName)).before args s = true := TB.w 590 (by decide +kernel) rfl h
theorem q646 {s : State} {args : Array Value} (h : TB s) : (Jvm.Cond.methodLink "RebusSignsLaw" (60 : Nat) ({ cls := "RebusSigns", name := "least", desc := "(II)I" } : Jvm.MethodName)).before args s = true := TB.w 646 (by decide +kernel) rfl h
theorem q647 {s : State} {args : Array Value} (h : TB s) : (Jvm.Cond.instanceMethod ({ cls := "RebusSigns", name := "least", desc := "(II)I" } : Jvm.MethodName)).before args s = true := TB.w 647 (by decide +kernel) rfl h
theorem q648 {s : State} {args : Array Value} (h : TB s) : (Jvm.Cond.selects "RebusSigns" ({ cls := "RebusSigns", name := "least", desc := "(II)I" } : Jvm.MethodName) ({ cls := "RebusSigns", name := "least", desc := "(II)I" } : Jvm.MethodName)).before args s = true := TB.w 648 (by decide +kernel) rfl h
theorem q657 {s : State} {args : Array Value} (h : TB s) : (Jvm.Cond.methodLink "RebusSignsLaw" (64 : Nat) ({ cls := "RebusSigns", name := "mark", desc := "(I)I" } : Jvm.MethodName)).before args s = true := TB.w 657 (by decide +kernel) rfl h
theorem q658 {s : State} {args : Array Value} (h : TB s) : (Jvm.Cond.instanceMethod ({ cls := "RebusSigns", name := "mark", desc := "(I)I" } : Jvm.MethodName)).before args s = true := TB.w 658 (by decide +kernel) rfl h
theorem q659 {s : State} {args : Array Value} (h : TB s) : (Jvm.Cond.selects "RebusSigns" ({ cls := "RebusSigns", name := "mark", desc := "(I)I" } : Jvm.MethodName) ({ cls := "RebusSigns", name := "mark", desc := "(I)I" } : Jvm.MethodName)).before args s = true := TB.w 659 (by decide +kernel) rfl h
theorem q661 {s : State} {args : Array Value} (h : TB s) : (Jvm.Cond.methodLink "RebusSignsLaw" (68 : Nat) ({ cls := "RebusSigns", name := "writings", desc := "(I)J" } : Jvm.MethodName)).before args s = true := TB.w 661 (by decide +kernel) rfl h
theorem q662 {s : State} {args : Array Value} (h : TB s) : (Jvm.Cond.instanceMethod ({ cls := "RebusSigns", name := "writings", desc := "(I)J" } : Jvm.MethodName)).before args s = true := TB.w 662 (by decide +kernel) rfl h
theorem q663 {s : State} {args : Array Value} (h : TB s) : (Jvm.Cond.selects "RebusSigns" ({ cls := "RebusSigns", name := "writings", desc := "(I)J" } : Jvm.MethodName) ({ cls := "RebusSigns", name := "writings", desc := "(I)J" } : Jvm.MethodName)).before args s = true := TB.w 663 (by decide +kernel) rfl h
theorem q677 {s : State} {args : Array Value} (h : TB s) : (Jvm.Cond.methodLink "RebusSignsLaw" (73 : Nat) ({ cls := "RebusSigns", name := "carved", desc := "(I)I" } : Jvm.MethodName)).before args s = true := TB.w 677 (by decide +kernel) rfl h
theorem q678 {s : State} {args : Array Value} (h : TB s) : (Jvm.Cond.instanceMethod ({ cls := "RebusSigns", name := "carved", desc := "(I)I" } : Jvm.MethodName)).before args s = true := TB.w 678 (by decide +kernel) rfl h
theorem q679 {s : State} {args : Array Value} (h : TB s) : (Jvm.Cond.selects "RebusSigns" ({ cls := "RebusSigns", name := "carved", desc := "(I)I" } : Jvm.MethodName) ({ cls := "RebusSigns", name := "carved", desc := "(I)I" } : Jvm.MethodName)).before args s = true := TB.w 679 (by decide +kernel) rfl h
theorem q681 {s : State} {args : Array Value} (h : TB s) : (Jvm.Cond.methodLink "RebusSignsLaw" (77 : Nat) ({ cls := "RebusSigns", name := "read", desc := "(II)I" } : Jvm.MethodName)).before args s = true := TB.w 681 (by decide +kernel) rfl h
theorem q682 {s : State} {args : Array Value} (h : TB s) : (Jvm.Cond.instanceMethod ({ cls := "RebusSigns", name := "read", desc := "(II)I" } : Jvm.MethodName)).before args s = true := TB.w 682 (by decide +kernel) rfl h
theorem q683 {s : State} {args : Array Value} (h : TB s) : (Jvm.Cond.selects "RebusSigns" ({ cls := "RebusSigns", name := "read", desc := "(II)I" } : Jvm.MethodName) ({ cls := "RebusSigns", name := "read", desc := "(II)I" } : Jvm.MethodName)).before args s = true := TB.w 683 (by decide +kernel) rfl h
theorem q685 {s : State} {args : Array Value} (h : TB s) : (Jvm.Cond.methodLink "RebusSignsLaw" (81 : Nat) ({ cls := "RebusSigns", name := "readings", desc := "()J" } : Jvm.MethodName)).before args s = true := TB.w 685 (by decide +kernel) rfl h
theorem q686 {s : State} {args : Array Value} (h : TB s) : (Jvm.Cond.instanceMethod ({ cls := "RebusSigns", name := "readings", desc := "()J" } : Jvm.MethodName)).before args s = true := TB.w 686 (by decide +kernel) rfl h
theorem q687 {s : State} {args : Array Value} (h : TB s) : (Jvm.Cond.selects "RebusSigns" ({ cls := "RebusSigns", name := "readings", desc := "()J" } : Jvm.MethodName) ({ cls := "RebusSigns", name := "readings", desc := "()J" } : Jvm.MethodName)).before args s = true := TB.w 687 (by decide +kernel) rfl h
theorem q716 {s : State} {args : Array Value} (h : TB s) : (Jvm.Cond.methodLink "RebusSignsLaw" (86 : Nat) ({ cls := "RebusSigns", name := "reading", desc := "(I)I" } : Jvm.MethodName)).before args s = true := TB.w 716 (by decide +kernel) rfl h
theorem q717 {s : State} {args : Array Value} (h : TB s) : (Jvm.Cond.instanceMethod ({ cls := "RebusSigns", name := "reading", desc := "(I)I" } : Jvm.MethodName)).before args s = true := TB.w 717 (by decide +kernel) rfl h
theorem q718 {s : State} {args : Array Value} (h : TB s) : (Jvm.Cond.selects "RebusSigns" ({ cls := "RebusSigns", name := "reading", desc := "(I)I" } : Jvm.MethodName) ({ cls := "RebusSigns", name := "reading", desc := "(I)I" } : Jvm.MethodName)).before args s = true := TB.w 718 (by decide +kernel) rfl h
theorem q732 {s : State} {args : Array Value} (h : TB s) : (Jvm.Cond.methodLink "RebusSignsLaw" (90 : Nat) ({ cls := "RebusSigns", name := "cut", desc := "(I)I" } : Jvm.MethodName)).before args s = true := TB.w 732 (by decide +kernel) rfl h
theorem q733 {s : State} {args : Array Value} (h : TB s) : (Jvm.Cond.instanceMethod ({ cls := "RebusSigns", name := "cut", desc := "(I)I" } : Jvm.MethodName)).before args s = true := TB.w 733 (by decide +kernel) rfl h
theorem q734 {s : State} {args : Array Value} (h : TB s) : (Jvm.Cond.selects "RebusSigns" ({ cls := "RebusSigns", name := "cut", desc := "(I)I" } : Jvm.MethodName) ({ cls := "RebusSigns", name := "cut", desc := "(I)I" } : Jvm.MethodName)).before args s = true := TB.w 734 (by decide +kernel) rfl h
theorem q740 {s : State} {args : Array Value} (h : TB s) : (Jvm.Cond.methodLink "RebusSignsLaw" (94 : Nat) ({ cls := "RebusSigns", name := "count", desc := "(I)I" } : Jvm.MethodName)).before args s = true := TB.w 740 (by decide +kernel) rfl h
theorem q741 {s : State} {args : Array Value} (h : TB s) : (Jvm.Cond.instanceMethod ({ cls := "RebusSigns", name := "count", desc := "(I)I" } : Jvm.MethodName)).before args s = true := TB.w 741 (by decide +kernel) rfl h
theorem q742 {s : State} {args : Array Value} (h : TB s) : (Jvm.Cond.selects "RebusSigns" ({ cls := "RebusSigns", name := "count", desc := "(I)I" } : Jvm.MethodName) ({ cls := "RebusSigns", name := "count", desc := "(I)I" } : Jvm.MethodName)).before args s = true := TB.w 742 (by decide +kernel) rfl h
theorem q756 {s : State} {args : Array Value} (h : TB s) : (Jvm.Cond.classLink "RebusSignsLaw" (10 : Nat) "RebusSignsModel").before args s = true := TB.w 756 (by decide +kernel) rfl h
theorem q757 {s : State} {args : Array Value} (h : TB s) : (Jvm.Cond.instantiable "RebusSignsModel" (20 : Nat)).before args s = true := TB.w 757 (by decide +kernel) rfl h
theorem q758 {s : State} {args : Array Value} (h : TB s) : (Jvm.Cond.methodLink "RebusSignsLaw" (12 : Nat) ({ cls := "RebusSignsModel", name := "<init>", desc := "()V" } : Jvm.MethodName)).before args s = true := TB.w 758 (by decide +kernel) rfl h
theorem q759 {s : State} {args : Array Value} (h : TB s) : (Jvm.Cond.instanceMethod ({ cls := "RebusSignsModel", name := "<init>", desc := "()V" } : Jvm.MethodName)).before args s = true := TB.w 759 (by decide +kernel) rfl h
theorem q835 {s : State} {args : Array Value} (h : TB s) : (Jvm.Cond.methodLink "RebusSignsLaw" (17 : Nat) ({ cls := "RebusSignsModel", name := "write", desc := "(I)I" } : Jvm.MethodName)).before args s = true := TB.w 835 (by decide +kernel) rfl h
theorem q836 {s : State} {args : Array Value} (h : TB s) : (Jvm.Cond.instanceMethod ({ cls := "RebusSignsModel", name := "write", desc := "(I)I" } : Jvm.MethodName)).before args s = true := TB.w 836 (by decide +kernel) rfl h
theorem q837 {s : State} {args : Array Value} (h : TB s) : (Jvm.Cond.selects "RebusSignsModel" ({ cls := "RebusSignsModel", name := "write", desc := "(I)I" } : Jvm.MethodName) ({ cls := "RebusSignsModel", name := "write", desc := "(I)I" } : Jvm.MethodName)).before args s = true := TB.w 837 (by decide +kernel) rfl h
theorem q844 {s : State} {args : Array Value} (h : TB s) : (Jvm.Cond.methodLink "RebusSignsLaw" (22 : Nat) ({ cls := "RebusSignsModel", name := "wipe", desc := "()I" } : Jvm.MethodName)).before args s = true := TB.w 844 (by decide +kernel) rfl h
theorem q845 {s : State} {args : Array Value} (h : TB s) : (Jvm.Cond.instanceMethod ({ cls := "RebusSignsModel", name := "wipe", desc := "()I" } : Jvm.MethodName)).before args s = true := TB.w 845 (by decide +kernel) rfl h
theorem q846 {s : State} {args : Array Value} (h : TB s) : (Jvm.Cond.selects "RebusSignsModel" ({ cls := "RebusSignsModel", name := "wipe", desc := "()I" } : Jvm.MethodName) ({ cls := "RebusSignsModel", name := "wipe", desc := "()I" } : Jvm.MethodName)).before args s = true := TB.w 846 (by decide +kernel) rfl h
theorem q848 {s : State} {args : Array Value} (h : TB s) : (Jvm.Cond.methodLink "RebusSignsLaw" (26 : Nat) ({ cls := "RebusSignsModel", name := "fault", desc := "()I" } : Jvm.MethodName)).before args s = true := TB.w 848 (by decide +kernel) rfl h
theorem q882 {s : State} {args : Array Value} (h : TB s) : (Jvm.Cond.methodLink "RebusSignsLaw" (30 : Nat) ({ cls := "RebusSignsModel", name := "lay", desc := "()I" } : Jvm.MethodName)).before args s = true := TB.w 882 (by decide +kernel) rfl h
theorem q883 {s : State} {args : Array Value} (h : TB s) : (Jvm.Cond.instanceMethod ({ cls := "RebusSignsModel", name := "lay", desc := "()I" } : Jvm.MethodName)).before args s = true := TB.w 883 (by decide +kernel) rfl h
theorem q884 {s : State} {args : Array Value} (h : TB s) : (Jvm.Cond.selects "RebusSignsModel" ({ cls := "RebusSignsModel", name := "lay", desc := "()I" } : Jvm.MethodName) ({ cls := "RebusSignsModel", name := "lay", desc := "()I" } : Jvm.MethodName)).before args s = true := TB.w 884 (by decide +kernel) rfl h
theorem q887 {s : State} {args : Array Value} (h : TB s) : (Jvm.Cond.methodLink "RebusSignsLaw" (51 : Nat) ({ cls := "RebusSignsModel", name := "undo", desc := "()I" } : Jvm.MethodName)).before args s = true := TB.w 887 (by decide +kernel) rfl h
theorem q888 {s : State} {args : Array Value} (h : TB s) : (Jvm.Cond.instanceMethod ({ cls := "RebusSignsModel", name := "undo", desc := "()I" } : Jvm.MethodName)).before args s = true := TB.w 888 (by decide +kernel) rfl h
theorem q889 {s : State} {args : Array Value} (h : TB s) : (Jvm.Cond.selects "RebusSignsModel" ({ cls := "RebusSignsModel", name := "undo", desc := "()I" } : Jvm.MethodName) ({ cls := "RebusSignsModel", name := "undo", desc := "()I" } : Jvm.MethodName)).before args s = true := TB.w 889 (by decide +kernel) rfl h
theorem q891 {s : State} {args : Array Value} (h : TB s) : (Jvm.Cond.methodLink "RebusSignsLaw" (35 : Nat) ({ cls := "RebusSignsModel", name := "strike", desc := "(II)I" } : Jvm.MethodName)).before args s = true := TB.w 891 (by decide +kernel) rfl h
theorem q892 {s : State} {args : Array Value} (h : TB s) : (Jvm.Cond.instanceMethod ({ cls := "RebusSignsModel", name := "strike", desc := "(II)I" } : Jvm.MethodName)).before args s = true := TB.w 892 (by decide +kernel) rfl h
theorem q893 {s : State} {args : Array Value} (h : TB s) : (Jvm.Cond.selects "RebusSignsModel" ({ cls := "RebusSignsModel", name := "strike", desc := "(II)I" } : Jvm.MethodName) ({ cls := "RebusSignsModel", name := "strike", desc := "(II)I" } : Jvm.MethodName)).before args s = true := TB.w 893 (by decide +kernel) rfl h
theorem q910 {s : State} {args : Array Value} (h : TB s) : (Jvm.Cond.methodLink "RebusSignsLaw" (39 : Nat) ({ cls := "RebusSignsModel", name := "law", desc := "(I)I" } : Jvm.MethodName)).before args s = true := TB.w 910 (by decide +kernel) rfl h
theorem q911 {s : State} {args : Array Value} (h : TB s) : (Jvm.Cond.instanceMethod ({ cls := "RebusSignsModel", name := "law", desc := "(I)I" } : Jvm.MethodName)).before args s = true := TB.w 911 (by decide +kernel) rfl h
theorem q912 {s : State} {args : Array Value} (h : TB s) : (Jvm.Cond.selects "RebusSignsModel" ({ cls := "RebusSignsModel", name := "law", desc := "(I)I" } : Jvm.MethodName) ({ cls := "RebusSignsModel", name := "law", desc := "(I)I" } : Jvm.MethodName)).before args s = true := TB.w 912 (by decide +kernel) rfl h
theorem q914 {s : State} {args : Array Value} (h : TB s) : (Jvm.Cond.methodLink "RebusSignsLaw" (43 : Nat) ({ cls := "RebusSignsModel", name := "carve", desc := "(I)I" } : Jvm.MethodName)).before args s = true := TB.w 914 (by decide +kernel) rfl h
theorem q915 {s : State} {args : Array Value} (h : TB s) : (Jvm.Cond.instanceMethod ({ cls := "RebusSignsModel", name := "carve", desc := "(I)I" } : Jvm.MethodName)).before args s = true := TB.w 915 (by decide +kernel) rfl h
theorem q916 {s : State} {args : Array Value} (h : TB s) : (Jvm.Cond.selects "RebusSignsModel" ({ cls := "RebusSignsModel", name := "carve", desc := "(I)I" } : Jvm.MethodName) ({ cls := "RebusSignsModel", name := "carve", desc := "(I)I" } : Jvm.MethodName)).before args s = true := TB.w 916 (by decide +kernel) rfl h
theorem q918 {s : State} {args : Array Value} (h : TB s) : (Jvm.Cond.methodLink "RebusSignsLaw" (47 : Nat) ({ cls := "RebusSignsModel", name := "chip", desc := "()I" } : Jvm.MethodName)).before args s = true := TB.w 918 (by decide +kernel) rfl h
theorem q919 {s : State} {args : Array Value} (h : TB s) : (Jvm.Cond.instanceMethod ({ cls := "RebusSignsModel", name := "chip", desc := "()I" } : Jvm.MethodName)).before args s = true := TB.w 919 (by decide +kernel) rfl h
theorem q920 {s : State} {args : Array Value} (h : TB s) : (Jvm.Cond.selects "RebusSignsModel" ({ cls := "RebusSignsModel", name := "chip", desc := "()I" } : Jvm.MethodName) ({ cls := "RebusSignsModel", name := "chip", desc := "()I" } : Jvm.MethodName)).before args s = true := TB.w 920 (by decide +kernel) rfl h
theorem q922 {s : State} {args : Array Value} (h : TB s) : (Jvm.Cond.methodLink "RebusSignsLaw" (55 : Nat) ({ cls := "RebusSignsModel", name := "sign", desc := "(II)I" } : Jvm.MethodName)).before args s = true := TB.w 922 (by decide +kernel) rfl h
theorem q923 {s : State} {args : Array Value} (h : TB s) : (Jvm.Cond.instanceMethod ({ cls := "RebusSignsModel", name := "sign", desc := "(II)I" } : Jvm.MethodName)).before args s = true := TB.w 923 (by decide +kernel) rfl h
theorem q924 {s : State} {args : Array Value} (h : TB s) : (Jvm.Cond.selects "RebusSignsModel" ({ cls := "RebusSignsModel", name := "sign", desc := "(II)I" } : Jvm.MethodName) ({ cls := "RebusSignsModel", name := "sign", desc := "(II)I" } : Jvm.MethodName)).before args s = true := TB.w 924 (by decide +kernel) rfl h
theorem q983 {s : State} {args : Array Value} (h : TB s) : (Jvm.Cond.methodLink "RebusSignsLaw" (59 : Nat) ({ cls := "RebusSignsModel", name := "word", desc := "(II)I" } : Jvm.MethodName)).before args s = true := TB.w 983 (by decide +kernel) rfl h
theorem q984 {s : State} {args : Array Value} (h : TB s) : (Jvm.Cond.instanceMethod ({ cls := "RebusSignsModel", name := "word", desc := "(II)I" } : Jvm.MethodName)).before args s = true := TB.w 984 (by decide +kernel) rfl h
theorem q985 {s : State} {args : Array Value} (h : TB s) : (Jvm.Cond.selects "RebusSignsModel" ({ cls := "RebusSignsModel", name := "word", desc := "(II)I" } : Jvm.MethodName) ({ cls := "RebusSignsModel", name := "word", desc := "(II)I" } : Jvm.MethodName)).before args s = true := TB.w 985 (by decide +kernel) rfl h
theorem q1015 {s : State} {args : Array Value} (h : TB s) : (Jvm.Cond.methodLink "RebusSignsLaw" (63 : Nat) ({ cls := "RebusSignsModel", name := "least", desc := "(II)I" } : Jvm.MethodName)).before args s = true := TB.w 1015 (by decide +kernel) rfl h
theorem q1016 {s : State} {args : Array Value} (h : TB s) : (Jvm.Cond.instanceMethod ({ cls := "RebusSignsModel", name := "least", desc := "(II)I" } : Jvm.MethodName)).before args s = true := TB.w 1016 (by decide +kernel) rfl h
theorem q1017 {s : State} {args : Array Value} (h : TB s) : (Jvm.Cond.selects "RebusSignsModel" ({ cls := "RebusSignsModel", name := "least", desc := "(II)I" } : Jvm.MethodName) ({ cls := "RebusSignsModel", name := "least", desc := "(II)I" } : Jvm.MethodName)).before args s = true := TB.w 1017 (by decide +kernel) rfl h
theorem q1019 {s : State} {args : Array Value} (h : TB s) : (Jvm.Cond.methodLink "RebusSignsLaw" (67 : Nat) ({ cls := "RebusSignsModel", name := "mark", desc := "(I)I" } : Jvm.MethodName)).before args s = true := TB.w 1019 (by decide +kernel) rfl h
theorem q1020 {s : State} {args : Array Value} (h : TB s) : (Jvm.Cond.instanceMethod ({ cls := "RebusSignsModel", name := "mark", desc := "(I)I" } : Jvm.MethodName)).before args s = true := TB.w 1020 (by decide +kernel) rfl h
theorem q1021 {s : State} {args : Array Value} (h : TB s) : (Jvm.Cond.selects "RebusSignsModel" ({ cls := "RebusSignsModel", name := "mark", desc := "(I)I" } : Jvm.MethodName) ({ cls := "RebusSignsModel", name := "mark", desc := "(I)I" } : Jvm.MethodName)).before args s = true := TB.w 1021 (by decide +kernel) rfl h
theorem q1023 {s : State} {args : Array Value} (h : TB s) : (Jvm.Cond.methodLink "RebusSignsLaw" (72 : Nat) ({ cls := "RebusSignsModel", name := "writings", desc := "(I)J" } : Jvm.MethodName)).before args s = true := TB.w 1023 (by decide +kernel) rfl h
theorem q1024 {s : State} {args : Array Value} (h : TB s) : (Jvm.Cond.instanceMethod ({ cls := "RebusSignsModel", name := "writings", desc := "(I)J" } : Jvm.MethodName)).before args s = true := TB.w 1024 (by decide +kernel) rfl h
theorem q1025 {s : State} {args : Array Value} (h : TB s) : (Jvm.Cond.selects "RebusSignsModel" ({ cls := "RebusSignsModel", name := "writings", desc := "(I)J" } : Jvm.MethodName) ({ cls := "RebusSignsModel", name := "writings", desc := "(I)J" } : Jvm.MethodName)).before args s = true := TB.w 1025 (by decide +kernel) rfl h
theorem q1028 {s : State} {args : Array Value} (h : TB s) : (Jvm.Cond.methodLink "RebusSignsLaw" (76 : Nat) ({ cls := "RebusSignsModel", name := "carved", desc := "(I)I" } : Jvm.MethodName)).before args s = true := TB.w 1028 (by decide +kernel) rfl h
theorem q1029 {s : State} {args : Array Value} (h : TB s) : (Jvm.Cond.instanceMethod ({ cls := "RebusSignsModel", name := "carved", desc := "(I)I" } : Jvm.MethodName)).before args s = true := TB.w 1029 (by decide +kernel) rfl h
theorem q1030 {s : State} {args : Array Value} (h : TB s) : (Jvm.Cond.selects "RebusSignsModel" ({ cls := "RebusSignsModel", name := "carved", desc := "(I)I" } : Jvm.MethodName) ({ cls := "RebusSignsModel", name := "carved", desc := "(I)I" } : Jvm.MethodName)).before args s = true := TB.w 1030 (by decide +kernel) rfl h
theorem q1032 {s : State} {args : Array Value} (h : TB s) : (Jvm.Cond.methodLink "RebusSignsLaw" (80 : Nat) ({ cls := "RebusSignsModel", name := "read", desc := "(II)I" } : Jvm.MethodName)).before args s = true := TB.w 1032 (by decide +kernel) rfl h
theorem q1033 {s : State} {args : Array Value} (h : TB s) : (Jvm.Cond.instanceMethod ({ cls := "RebusSignsModel", name := "read", desc := "(II)I" } : Jvm.MethodName)).before args s = true := TB.w 1033 (by decide +kernel) rfl h
theorem q1034 {s : State} {args : Array Value} (h : TB s) : (Jvm.Cond.selects "RebusSignsModel" ({ cls := "RebusSignsModel", name := "read", desc := "(II)I" } : Jvm.MethodName) ({ cls := "RebusSignsModel", name := "read", desc := "(II)I" } : Jvm.MethodName)).before args s = true := TB.w 1034 (by decide +kernel) rfl h
theorem q1037 {s : State} {args : Array Value} (h : TB s) : (Jvm.Cond.methodLink "RebusSignsLaw" (85 : Nat) ({ cls := "RebusSignsModel", name := "readings", desc := "()J" } : Jvm.MethodName)).before args s = true := TB.w 1037 (by decide +kernel) rfl h
theorem q1038 {s : State} {args : Array Value} (h : TB s) : (Jvm.Cond.instanceMethod ({ cls := "RebusSignsModel", name := "readings", desc := "()J" } : Jvm.MethodName)).before args s = true := TB.w 1038 (by decide +kernel) rfl h
theorem q1039 {s : State} {args : Array Value} (h : TB s) : (Jvm.Cond.selects "RebusSignsModel" ({ cls := "RebusSignsModel", name := "readings", desc := "()J" } : Jvm.MethodName) ({ cls := "RebusSignsModel", name := "readings", desc := "()J" } : Jvm.MethodName)).before args s = true := TB.w 1039 (by decide +kernel) rfl h
theorem q1045 {s : State} {args : Array Value} (h : TB s) : (Jvm.Cond.methodLink "RebusSignsLaw" (89 : Nat) ({ cls := "RebusSignsModel", name := "reading", desc := "(I)I" } : Jvm.MethodName)).before args s = true := TB.w 1045 (by decide +kernel) rfl h
theorem q1046 {s : State} {args : Array Value} (h : TB s) : (Jvm.Cond.instanceMethod ({ cls := "RebusSignsModel", name := "reading", desc := "(I)I" } : Jvm.MethodName)).before args s = true := TB.w 1046 (by decide +kernel) rfl h
theorem q1047 {s : State} {args : Array Value} (h : TB s) : (Jvm.Cond.selects "RebusSignsModel" ({ cls := "RebusSignsModel", name := "reading", desc := "(I)I" } : Jvm.MethodName) ({ cls := "RebusSignsModel", name := "reading", desc := "(I)I" } : Jvm.MethodName)).before args s = true := TB.w 1047 (by decide +kernel) rfl h
theorem q1057 {s : State} {args : Array Value} (h : TB s) : (Jvm.Cond.methodLink "RebusSignsLaw" (93 : Nat) ({ cls := "RebusSignsModel", name := "cut", desc := "(I)I" } : Jvm.MethodName)).before args s = true := TB.w 1057 (by decide +kernel) rfl h
theorem q1058 {s : State} {args : Array Value} (h : TB s) : (Jvm.Cond.instanceMethod ({ cls := "RebusSignsModel", name := "cut", desc := "(I)I" } : Jvm.MethodName)).before args s = true := TB.w 1058 (by decide +kernel) rfl h
theorem q1059 {s : State} {args : Array Value} (h : TB s) : (Jvm.Cond.selects "RebusSignsModel" ({ cls := "RebusSignsModel", name := "cut", desc := "(I)I" } : Jvm.MethodName) ({ cls := "RebusSignsModel", name := "cut", desc := "(I)I" } : Jvm.MethodName)).before args s = true := TB.w 1059 (by decide +kernel) rfl h
theorem q1061 {s : State} {args : Array Value} (h : TB s) : (Jvm.Cond.methodLink "RebusSignsLaw" (97 : Nat) ({ cls := "RebusSignsModel", name := "count", desc := "(I)I" } : Jvm.MethodName)).before args s = true := TB.w 1061 (by decide +kernel) rfl h
theorem q1062 {s : State} {args : Array Value} (h : TB s) : (Jvm.Cond.instanceMethod ({ cls := "RebusSignsModel", name := "count", desc := "(I)I" } : Jvm.MethodName)).before args s = true := TB.w 1062 (by decide +kernel) rfl h
theorem q1063 {s : State} {args : Array Value} (h : TB s) : (Jvm.Cond.selects "RebusSignsModel" ({ cls := "RebusSignsModel", name := "count", desc := "(I)I" } : Jvm.MethodName) ({ cls := "RebusSignsModel", name := "count", desc := "(I)I" } : Jvm.MethodName)).before args s = true := TB.w 1063 (by decide +kernel) rfl h
section LR
variable {p : Program} {l : Launch} {e : Env} {R : Room} {s : State} {m : MethodId} {args : Array Value} {below : List Frame} {meth : Method} {c : Code} {D : va_G} {ca : Nat → ClassId} {b nL : Nat} {Q : State → Prop} {cells slots : Nat} {T : Tx} {V : Vx} {pc : Nat} {L : List (Nat × Value)} {st : List Value} {cc : ByteArray} {ret : Option FieldType} {own mn : String} {bs Ln : Nat} {xs : Nat → Int32}
theorem g_aloadX (G : GX p s m meth c cc nL ret own mn D ca b) {k : Fin 4} {a : Nat} (hdg : decode cc pc = .ok (.aload_n k, 1)) (j : Nat) (hl : L[j]? = some ((k : Nat), .ref a)) (kk : WG p l e R s m args below meth c D ca b nL Q cells slots T V (pc + 1) L (.ref a :: st)) : WG p l e R s m args below meth c D ca b nL Q cells slots T V pc L st :=
  fun H locs ls hW h => lv_aload_n G.1 G.2.1 hdg rfl (lv_at h j hl) (kk H locs ls hW h)
theorem g_slen (G : GX p s m meth c cc nL ret own mn D ca b) (hX : va_X bs Ln xs s s.heap) (hbl : bs < s.heap.size) (hbs : b = s.heap.size) (hdg : decode cc pc = .ok (.arraylength, 1)) (kk : WG p l e R s m args below meth c D ca b nL Q cells slots T V (pc + 1) L (.int (nI Ln) :: st)) : WG p l e R s m args below meth c D ca b nL Q cells slots T V pc L (.ref bs :: st) :=
  fun H locs ls hW h => va_slen G.1 G.2.1 hX hbl (A := fun q : Nat => b ≤ q) (by rw [hbs]; exact Nat.not_le.mpr hbl) hW.2.2.2 hdg (kk H locs ls hW h)
theorem g_sld (G : GX p s m meth c cc nL ret own mn D ca b) (hX : va_X bs Ln xs s s.heap) (hbl : bs < s.heap.size) (hbs : b = s.heap.size) {i : Int32} (hin : inb i Ln = true) (hdg : decode cc pc = .ok (.iaload, 1)) (kk : WG p l e R s m args below meth c D ca b nL Q cells slots T V (pc + 1) L (.int (xs i.toNatClampNeg) :: st)) : WG p l e R s m args below meth c D ca b nL Q cells slots T V pc L (.int i :: .ref bs :: st) :=
  fun H locs ls hW h => va_sld G.1 G.2.1 hX hbl (A := fun q : Nat => b ≤ q) (by rw [hbs]; exact Nat.not_le.mpr hbl) hW.2.2.2 (inb_e hin) hdg (kk H locs ls hW h)
end LR
theorem g_lawret {p : Program} {l : Launch} {e : Env} {s : State} {m : MethodId} {below : List Frame} {meth : Method} {c : Code} {D : va_G} {ca : Nat → ClassId} {b cells slots bs : Nat} {T : Tx} {V : Vx} {pc : Nat} {L : List (Nat × Value)} (hx : p.tables.exec = Jvm.exec) (hb : c.code = code) (hr : meth.sig.returnType = ret) (hlocks : meth.locks = false) (hc : cells ≤ 600000) (hs : slots ≤ 7302250) (hbs : b = s.heap.size) (hdg : decode code pc = .ok (.ireturn, 1)) : WG p l e room_1 s m #[Value.ref bs] below meth c D ca b 4 (lw_Z below #[Value.ref bs] s) cells slots T V pc L [.int 1] :=
  fun H locs ls hW hl => va_forget (fun q hq => by rw [← hbs]; exact hW.2.2.2.2.2 q hq) (W.widen hc hs (lw_ret hx hb hr hlocks hdg))
set_option maxRecDepth 100000 in
def Lw_law_L18 (xs : Nat → Int32) (Ln : Nat) (T19 : Tx) (a1 : Nat) (a12 : Nat) : Nat → Vx → Int32 → Option (Int32)
  | 0, _, _ => none
  | n23 + 1, V25, v24 => (if ((nI Ln) - 3) < v24 then some 1 else gd (inb v24 Ln) ((if ((xs v24.toNatClampNeg) &&& 31) = 0 then gd (inb (v24 + 1) Ln) (bd (ck T19 8 (some a1)) (fun _ => bd2 (RS_write T19 V25 a1 (xs (v24 + 1).toNatClampNeg)) (fun r37 V36 => gd (inb (v24 + 1) Ln) (bd (ck T19 9 (some a12)) (fun _ => bd2 (Mo_write T19 V36 a12 (xs (v24 + 1).toNatClampNeg)) (fun r44 V43 => (if r37 = r44 then Lw_law_L18 xs Ln T19 a1 a12 n23 V43 (v24 + 3) else some 0))))))) else if ((xs v24.toNatClampNeg) &&& 31) = 1 then bd (ck T19 8 (some a1)) (fun _ => bd2 (RS_wipe T19 V25 a1) (fun r53 V52 => bd (ck T19 9 (some a12)) (fun _ => bd2 (Mo_wipe T19 V52 a12) (fun r59 V58 => (if r53 = r59 then Lw_law_L18 xs Ln T19 a1 a12 n23 V58 (v24 + 3) else some 0))))) else if ((xs v24.toNatClampNeg) &&& 31) = 2 then bd (ck T19 8 (some a1)) (fun _ => bd2 (RS_fault T19 V25 a1) (fun r68 V67 => bd (ck T19 9 (some a12)) (fun _ => bd2 (Mo_fault T19 V67 a12) (fun r74 V73 => (if r68 = r74 then Lw_law_L18 xs Ln T19 a1 a12 n23 V73 (v24 + 3) else some 0))))) else if ((xs v24.toNatClampNeg) &&& 31) = 3 then bd (ck T19 8 (some a1)) (fun _ => bd2 (RS_lay T19 V25 a1) (fun r83 V82 => bd (ck T19 9 (some a12)) (fun _ => bd2 (Mo_lay T19 V82 a12) (fun r89 V88 => (if r83 = r89 then Lw_law_L18 xs Ln T19 a1 a12 n23 V88 (v24 + 3) else some 0))))) else if ((xs v24.toNatClampNeg) &&& 31) = 4 then gd (inb (v24 + 1) Ln) (gd (inb (v24 + 2) Ln) (bd (ck T19 8 (some a1)) (fun _ => bd2 (RS_strike T19 V25 a1 (xs (v24 + 1).toNatClampNeg) (xs (v24 + 2).toNatClampNeg)) (fun r100 V99 => gd (inb (v24 + 1) Ln) (gd (inb (v24 + 2) Ln) (bd (ck T19 9 (some a12)) (fun _ => bd2 (Mo_strike T19 V99 a12 (xs (v24 + 1).toNatClampNeg) (xs (v24 + 2).toNatClampNeg)) (fun r108 V107 => (if r100 = r108 then Lw_law_L18 xs Ln T19 a1 a12 n23 V107 (v24 + 3) else some 0))))))))) else if ((xs v24.toNatClampNeg) &&& 31) = 5 then gd (inb (v24 + 1) Ln) (bd (ck T19 8 (some a1)) (fun _ => bd2 (RS_law T19 V25 a1 (xs (v24 + 1).toNatClampNeg)) (fun r118 V117 => gd (inb (v24 + 1) Ln) (bd (ck T19 9 (some a12)) (fun _ => bd2 (Mo_law T19 V117 a12 (xs (v24 + 1).toNatClampNeg)) (fun r125 V124 => (if r118 = r125 then Lw_law_L18 xs Ln T19 a1 a12 n23 V124 (v24 + 3) else some 0))))))) else if ((xs v24.toNatClampNeg) &&& 31) = 6 then gd (inb (v24 + 1) Ln) (bd (ck T19 8 (some a1)) (fun _ => bd2 (RS_carve T19 V25 a1 (xs (v24 + 1).toNatClampNeg)) (fun r135 V134 => gd (inb (v24 + 1) Ln) (bd (ck T19 9 (some a12)) (fun _ => bd2 (Mo_carve T19 V134 a12 (xs (v24 + 1).toNatClampNeg)) (fun r142 V141 => (if r135 = r142 then Lw_law_L18 xs Ln T19 a1 a12 n23 V141 (v24 + 3) else some 0))))))) else if ((xs v24.toNatClampNeg) &&& 31) = 7 then bd (ck T19 8 (some a1)) (fun _ => bd2 (RS_chip T19 V25 a1) (fun r151 V150 => bd (ck T19 9 (some a12)) (fun _ => bd2 (Mo_chip T19 V150 a12) (fun r157 V156 => (if r151 = r157 then Lw_law_L18 xs Ln T19 a1 a12 n23 V156 (v24 + 3) else some 0))))) else if ((xs v24.toNatClampNeg) &&& 31) = 8 then bd (ck T19 8 (some a1)) (fun _ => bd2 (RS_undo T19 V25 a1) (fun r166 V165 => bd (ck T19 9 (some a12)) (fun _ => bd2 (Mo_undo T19 V165 a12) (fun r172 V171 => (if r166 = r172 then Lw_law_L18 xs Ln T19 a1 a12 n23 V171 (v24 + 3) else some 0))))) else if ((xs v24.toNatClampNeg) &&& 31) = 9 then gd (inb (v24 + 1) Ln) (gd (inb (v24 + 2) Ln) (bd (ck T19 8 (some a1)) (fun _ => bd2 (RS_sign T19 V25 a1 (xs (v24 + 1).toNatClampNeg) (xs (v24 + 2).toNatClampNeg)) (fun r183 V182 => gd (inb (v24 + 1) Ln) (gd (inb (v24 + 2) Ln) (bd (ck T19 9 (some a12)) (fun _ => bd2 (Mo_sign T19 V182 a12 (xs (v24 + 1).toNatClampNeg) (xs (v24 + 2).toNatClampNeg)) (fun r191 V190 => (if r183 = r191 then Lw_law_L18 xs Ln T19 a1 a12 n23 V190 (v24 + 3) else some 0))))))))) else if ((xs v24.toNatClampNeg) &&& 31) = 10 then gd (inb (v24 + 1) Ln) (gd (inb (v24 + 2) Ln) (bd (ck T19 8 (some a1)) (fun _ => bd2 (RS_word T19 V25 a1 (xs (v24 + 1).toNatClampNeg) (xs (v24 + 2).toNatClampNeg)) (fun r202 V201 => gd (inb (v24 + 1) Ln) (gd (inb (v24 + 2) Ln) (bd (ck T19 9 (some a12)) (fun _ => bd2 (Mo_word T19 V201 a12 (xs (v24 + 1).toNatClampNeg) (xs (v24 + 2).toNatClampNeg)) (fun r210 V209 => (if r202 = r210 then Lw_law_L18 xs Ln T19 a1 a12 n23 V209 (v24 + 3) else some 0))))))))) else if ((xs v24.toNatClampNeg) &&& 31) = 11 then gd (inb (v24 + 1) Ln) (gd (inb (v24 + 2) Ln) (bd (ck T19 8 (some a1)) (fun _ => bd2 (RS_least T19 V25 a1 (xs (v24 + 1).toNatClampNeg) (xs (v24 + 2).toNatClampNeg)) (fun r221 V220 => gd (inb (v24 + 1) Ln) (gd (inb (v24 + 2) Ln) (bd (ck T19 9 (some a12)) (fun _ => bd2 (Mo_least T19 V220 a12 (xs (v24 + 1).toNatClampNeg) (xs (v24 + 2).toNatClampNeg)) (fun r229 V228 => (if r221 = r229 then Lw_law_L18 xs Ln T19 a1 a12 n23 V228 (v24 + 3) else some 0))))))))) else if ((xs v24.toNatClampNeg) &&& 31) = 12 then gd (inb (v24 + 1) Ln) (bd (ck T19 8 (some a1)) (fun _ => bd2 (RS_mark T19 V25 a1 (xs (v24 + 1).toNatClampNeg)) (fun r239 V238 => gd (inb (v24 + 1) Ln) (bd (ck T19 9 (some a12)) (fun _ => bd2 (Mo_mark T19 V238 a12 (xs (v24 + 1).toNatClampNeg)) (fun r246 V245 => (if r239 = r246 then Lw_law_L18 xs Ln T19 a1 a12 n23 V245 (v24 + 3) else some 0))))))) else if ((xs v24.toNatClampNeg) &&& 31) = 13 then gd (inb (v24 + 1) Ln) (bd (ck T19 8 (some a1)) (fun _ => bd2 (RS_writings T19 V25 a1 (xs (v24 + 1).toNatClampNeg)) (fun r256 V255 => gd (inb (v24 + 1) Ln) (bd (ck T19 9 (some a12)) (fun _ => bd2 (Mo_writings T19 V255 a12 (xs (v24 + 1).toNatClampNeg)) (fun r263 V262 => (if (lg_cmp r256 r263) = 0 then Lw_law_L18 xs Ln T19 a1 a12 n23 V262 (v24 + 3) else some 0))))))) else if ((xs v24.toNatClampNeg) &&& 31) = 14 then gd (inb (v24 + 1) Ln) (bd (ck T19 8 (some a1)) (fun _ => bd (RS_carved T19 V25 a1 (xs (v24 + 1).toNatClampNeg)) (fun r272 => gd (inb (v24 + 1) Ln) (bd (ck T19 9 (some a12)) (fun _ => bd (Mo_carved T19 V25 a12 (xs (v24 + 1).toNatClampNeg)) (fun r278 => (if r272 = r278 then Lw_law_L18 xs Ln T19 a1 a12 n23 V25 (v24 + 3) else some 0))))))) else if ((xs v24.toNatClampNeg) &&& 31) = 15 then gd (inb (v24 + 1) Ln) (gd (inb (v24 + 2) Ln) (bd (ck T19 8 (some a1)) (fun _ => bd2 (RS_read T19 V25 a1 (xs (v24 + 1).toNatClampNeg) (xs (v24 + 2).toNatClampNeg)) (fun r289 V288 => gd (inb (v24 + 1) Ln) (gd (inb (v24 + 2) Ln) (bd (ck T19 9 (some a12)) (fun _ => bd (Mo_read T19 V288 a12 (xs (v24 + 1).toNatClampNeg) (xs (v24 + 2).toNatClampNeg)) (fun r296 => (if r289 = r296 then Lw_law_L18 xs Ln T19 a1 a12 n23 V288 (v24 + 3) else some 0))))))))) else if ((xs v24.toNatClampNeg) &&& 31) = 16 then bd (ck T19 8 (some a1)) (fun _ => bd2 (RS_readings T19 V25 a1) (fun r305 V304 => bd (ck T19 9 (some a12)) (fun _ => bd2 (Mo_readings T19 V304 a12) (fun r311 V310 => (if (lg_cmp r305 r311) = 0 then Lw_law_L18 xs Ln T19 a1 a12 n23 V310 (v24 + 3) else some 0))))) else if ((xs v24.toNatClampNeg) &&& 31) = 17 then gd (inb (v24 + 1) Ln) (bd (ck T19 8 (some a1)) (fun _ => bd2 (RS_reading T19 V25 a1 (xs (v24 + 1).toNatClampNeg)) (fun r321 V320 => gd (inb (v24 + 1) Ln) (bd (ck T19 9 (some a12)) (fun _ => bd2 (Mo_reading T19 V320 a12 (xs (v24 + 1).toNatClampNeg)) (fun r328 V327 => (if r321 = r328 then Lw_law_L18 xs Ln T19 a1 a12 n23 V327 (v24 + 3) else some 0))))))) else if ((xs v24.toNatClampNeg) &&& 31) = 18 then gd (inb (v24 + 1) Ln) (bd (ck T19 8 (some a1)) (fun _ => bd2 (RS_cut T19 V25 a1 (xs (v24 + 1).toNatClampNeg)) (fun r338 V337 => gd (inb (v24 + 1) Ln) (bd (ck T19 9 (some a12)) (fun _ => bd2 (Mo_cut T19 V337 a12 (xs (v24 + 1).toNatClampNeg)) (fun r345 V344 => (if r338 = r345 then Lw_law_L18 xs Ln T19 a1 a12 n23 V344 (v24 + 3) else some 0))))))) else if ((xs v24.toNatClampNeg) &&& 31) = 19 then gd (inb (v24 + 1) Ln) (bd (ck T19 8 (some a1)) (fun _ => bd2 (RS_count T19 V25 a1 (xs (v24 + 1).toNatClampNeg)) (fun r355 V354 => gd (inb (v24 + 1) Ln) (bd (ck T19 9 (some a12)) (fun _ => bd2 (Mo_count T19 V354 a12 (xs (v24 + 1).toNatClampNeg)) (fun r362 V361 => (if r355 = r362 then Lw_law_L18 xs Ln T19 a1 a12 n23 V361 (v24 + 3) else some 0))))))) else Lw_law_L18 xs Ln T19 a1 a12 n23 V25 (v24 + 3))))
def Lw_law (xs : Nat → Int32) (Ln : Nat) (T : Tx) (V : Vx) : Option Int32 :=
  lt (tp T) (fun a1 => lt (nT T 8 0) (fun T2 => lt (zV T V) (fun V3 => bd2 (RS_init T2 V3 a1) (fun T8 V9 => gd (decide (tp T8 = tp T2 + 165)) (lt (tp T8) (fun a12 => lt (nT T8 9 0) (fun T13 => lt (zV T8 V9) (fun V14 => bd2 (Mo_init T13 V14 a12) (fun T19 V20 => gd (decide (tp T19 = tp T13 + 15)) (Lw_law_L18 xs Ln T19 a1 a12 FU V20 0))))))))))
set_option maxHeartbeats 8000000 in
set_option maxRecDepth 100000 in
theorem w_law {p : Program} {l : Launch} {e : Env} {s : State} {m : MethodId} {below : List Frame} {meth : Method} {c : Code} {D : va_G} {ca : Nat → ClassId} {b : Nat} {T : Tx} {V : Vx} {mn : String} {bs Ln adK adV : Nat} {xs : Nat → Int32} (G : GX p s m meth c code 4 ret RL mn D ca b) (SX : SF b adK adV s s.heap) (hX : va_X bs Ln xs s s.heap) (hbl : bs < s.heap.size) (hbs : b = s.heap.size) (h : Lw_law xs Ln T V = some 1) : WG p l e room_1 s m #[Value.ref bs] below meth c D ca b 4 (lw_Z below #[Value.ref bs] s) 0 0 T V 0 [(0, .ref bs)] [] := by
  have hR : 10 ≤ room_1.frames ∧ 245 ≤ room_1.locals := ⟨Nat.le_of_ble_eq_true rfl, Nat.le_of_ble_eq_true rfl⟩
  have hC : 600000 ≤ room_1.cells ∧ 7302250 ≤ room_1.slots := ⟨Nat.le_refl _, Nat.le_refl _⟩
  unfold Lw_law at h
  obtain ⟨a1, e4, h⟩ := lt_e h
  obtain ⟨T2, e5, h⟩ := lt_e h
  obtain ⟨V3, e6, h⟩ := lt_e h
  refine g_new (pc := 0) G ci_8 (uw_8 G.2.2.2.2.1) df_8 (q71 G.2.2.2.2.1) (q72 G.2.2.2.2.1) (q53 G.2.2.2.2.1) e5 e6 e4 ⟨Nat.le_trans (Nat.le_of_ble_eq_true rfl) hC.1, Nat.le_trans (Nat.le_of_ble_eq_true rfl) hC.2⟩ dL_law_0 ?_
  have k7 : kd T2 a1 = 8 := by
    rw [← e5, ← e4]
    exact nT_kd _ _ _
  refine g_widen (sl := 8) (Nat.le_of_ble_eq_true rfl) ?_
  refine g_dup (pc := 3) G dL_law_3 rfl ?_
  obtain ⟨T8, V9, e10, h⟩ := bd2_e h
  obtain ⟨z11, h⟩ := gd_e h
  refine g_callIX (pc := 4) (rest := [rv b (some a1)]) (st2 := [rv b (some a1)]) G SX (c_RS_init l D ca b adK adV k7 e10) (mb_RS_init G.2.2.2.2.1) (q74 G.2.2.2.2.1) (q73 G.2.2.2.2.1) rfl rfl (Nat.le_of_ble_eq_true rfl) ⟨Nat.le_trans (Nat.le_of_ble_eq_true rfl) hR.1, Nat.le_trans (Nat.le_of_ble_eq_true rfl) hR.2⟩ ⟨Nat.le_trans (Nat.le_of_ble_eq_true rfl) hC.1, Nat.le_trans (Nat.le_of_ble_eq_true rfl) hC.2⟩ (of_decide_eq_true z11) rfl dL_law_4 ?_
  refine g_widen (sl := 1057) (Nat.le_of_ble_eq_true rfl) ?_
  refine g_astore_n (L' := [(1, rv b (some a1)), (0, .ref bs)]) (pc := 7) G dL_law_7 (by decide) rfl ?_
  obtain ⟨a12, e15, h⟩ := lt_e h
  obtain ⟨T13, e16, h⟩ := lt_e h
  obtain ⟨V14, e17, h⟩ := lt_e h
  refine g_new (pc := 8) G ci_9 (uw_9 G.2.2.2.2.1) df_9 (q756 G.2.2.2.2.1) (q757 G.2.2.2.2.1) (q68 G.2.2.2.2.1) e16 e17 e15 ⟨Nat.le_trans (Nat.le_of_ble_eq_true rfl) hC.1, Nat.le_trans (Nat.le_of_ble_eq_true rfl) hC.2⟩ dL_law_8 ?_
  have k18 : kd T13 a12 = 9 := by
    rw [← e16, ← e15]
    exact nT_kd _ _ _
  refine g_widen (sl := 1077) (Nat.le_of_ble_eq_true rfl) ?_
  refine g_dup (pc := 11) G dL_law_11 rfl ?_
  obtain ⟨T19, V20, e21, h⟩ := bd2_e h
  obtain ⟨z22, h⟩ := gd_e h
  refine g_callI (pc := 12) (As := []) (rest := [rv b (some a12)]) (st2 := [rv b (some a12)]) G (c_Mo_init l D ca b k18 e21) (mb_Mo_init G.2.2.2.2.1) (q759 G.2.2.2.2.1) (q758 G.2.2.2.2.1) rfl rfl rfl (Nat.le_of_ble_eq_true rfl) ⟨Nat.le_trans (Nat.le_of_ble_eq_true rfl) hR.1, Nat.le_trans (Nat.le_of_ble_eq_true rfl) hR.2⟩ ⟨Nat.le_trans (Nat.le_of_ble_eq_true rfl) hC.1, Nat.le_trans (Nat.le_of_ble_eq_true rfl) hC.2⟩ (of_decide_eq_true z22) rfl dL_law_12 ?_
  refine g_widen (sl := 15270) (Nat.le_of_ble_eq_true rfl) ?_
  refine g_astore_n (L' := [(2, rv b (some a12)), (1, rv b (some a1)), (0, .ref bs)]) (pc := 15) G dL_law_15 (by decide) rfl ?_
  refine g_iconst (pc := 16) G (v := 0) dL_law_16 (by decide) ?_
  refine g_istore_n (L' := [(3, .int 0), (2, rv b (some a12)), (1, rv b (some a1)), (0, .ref bs)]) (pc := 17) G dL_law_17 (by decide) rfl ?_
  have LP27 : ∀ (n23 : Nat) (V25 : Vx) (v24 : Int32), Lw_law_L18 xs Ln T19 a1 a12 n23 V25 v24 = some 1 → WG p l e room_1 s m #[Value.ref bs] below meth c D ca b 4 (lw_Z below #[Value.ref bs] s) 182 15270 T19 V25 18 [(0, .ref bs), (1, rv b (some a1)), (2, rv b (some a12)), (3, .int v24)] [] := by
    intro n23
    induction n23 with
    | zero =>
      intro V25 v24 h
      cases h
    | succ n23 ih26 =>
      intro V25 v24 h
      rw [Lw_law_L18] at h
      refine g_iload_n (pc := 18) G dL_law_18 3 rfl ?_
      refine g_aloadX (pc := 19) G dL_law_19 0 rfl ?_
      refine g_slen (pc := 20) G hX hbl hbs dL_law_20 ?_
      refine g_iconst (pc := 21) G (v := 3) dL_law_21 (by decide) ?_
      refine g_isub (pc := 22) G dL_law_22 ?_
      refine g_icmp_gt (pc := 23) G 586 dL_law_23 (by decide) (fun c28 => ?_) (fun c28 => ?_)
      · rw [if_pos c28] at h
        refine g_iconst (pc := 586) G (v := 1) dL_law_586 (by decide) ?_
        exact g_lawret (pc := 587) G.1 G.2.1 G.2.2.2.2.2.2.1 G.2.2.2.2.2.2.2.1 (Nat.le_of_ble_eq_true rfl) (Nat.le_of_ble_eq_true rfl) hbs dL_law_587
      · rw [if_neg c28] at h
        refine g_aloadX (pc := 26) G dL_law_26 0 rfl ?_
        refine g_iload_n (pc := 27) G dL_law_27 3 rfl ?_
        obtain ⟨b29, h⟩ := gd_e h
        refine g_sld (pc := 28) G hX hbl hbs b29 dL_law_28 ?_
        refine g_bipush (pc := 29) G (v := 31) dL_law_29 (by decide) ?_
        refine g_iand (pc := 31) G dL_law_31 ?_
        by_cases c30 : ((xs v24.toNatClampNeg) &&& 31) = 0
        · rw [if_pos c30] at h
          have K46 : WG p l e room_1 s m #[Value.ref bs] below meth c D ca b 4 (lw_Z below #[Value.ref bs] s) 182 15270 T19 V25 128 [(0, .ref bs), (1, rv b (some a1)), (2, rv b (some a12)), (3, .int v24)] [] := by
            refine g_aload_n (pc := 128) G dL_law_128 1 rfl ?_
            refine g_aloadX (pc := 129) G dL_law_129 0 rfl ?_
            refine g_iload_n (pc := 130) G dL_law_130 3 rfl ?_
            refine g_iconst (pc := 131) G (v := 1) dL_law_131 (by decide) ?_
            refine g_iadd (pc := 132) G dL_law_132 ?_
            obtain ⟨b31, h⟩ := gd_e h
            refine g_sld (pc := 133) G hX hbl hbs b31 dL_law_133 ?_
            obtain ⟨r34, e33, h⟩ := bd_e h
            have k32 : kd T19 a1 = 8 := by
              obtain ⟨ee, k0⟩ := ck_e e33
              cases ee
              exact k0
            obtain ⟨r37, V36, e35, h⟩ := bd2_e h
            refine g_callV (pc := 134) (As := [.int (xs (v24 + 1).toNatClampNeg)]) (rest := []) (st2 := [.int r37]) G (c_RS_write l D ca b k32 e35) (mb_RS_write G.2.2.2.2.1) (q425 G.2.2.2.2.1) (q426 G.2.2.2.2.1) (q424 G.2.2.2.2.1) ci_8 k32 rfl rfl (Nat.le_of_ble_eq_true rfl) ⟨Nat.le_trans (Nat.le_of_ble_eq_true rfl) hR.1, Nat.le_trans (Nat.le_of_ble_eq_true rfl) hR.2⟩ ⟨Nat.le_trans (Nat.le_of_ble_eq_true rfl) hC.1, Nat.le_trans (Nat.le_of_ble_eq_true rfl) hC.2⟩ rfl rfl dL_law_134 ?_
            refine g_aload_n (pc := 137) G dL_law_137 2 rfl ?_
            refine g_aloadX (pc := 138) G dL_law_138 0 rfl ?_
            refine g_iload_n (pc := 139) G dL_law_139 3 rfl ?_
            refine g_iconst (pc := 140) G (v := 1) dL_law_140 (by decide) ?_
            refine g_iadd (pc := 141) G dL_law_141 ?_
            obtain ⟨b38, h⟩ := gd_e h
            refine g_sld (pc := 142) G hX hbl hbs b38 dL_law_142 ?_
            obtain ⟨r41, e40, h⟩ := bd_e h
            have k39 : kd T19 a12 = 9 := by
              obtain ⟨ee, k0⟩ := ck_e e40
              cases ee
              exact k0
            obtain ⟨r44, V43, e42, h⟩ := bd2_e h
            refine g_callV (pc := 143) (As := [.int (xs (v24 + 1).toNatClampNeg)]) (rest := [.int r37]) (st2 := [.int r44, .int r37]) G (c_Mo_write l D ca b k39 e42) (mb_Mo_write G.2.2.2.2.1) (q836 G.2.2.2.2.1) (q837 G.2.2.2.2.1) (q835 G.2.2.2.2.1) ci_9 k39 rfl rfl (Nat.le_of_ble_eq_true rfl) ⟨Nat.le_trans (Nat.le_of_ble_eq_true rfl) hR.1, Nat.le_trans (Nat.le_of_ble_eq_true rfl) hR.2⟩ ⟨Nat.le_trans (Nat.le_of_ble_eq_true rfl) hC.1, Nat.le_trans (Nat.le_of_ble_eq_true rfl) hC.2⟩ rfl rfl dL_law_143 ?_
            refine g_icmp_eq (pc := 146) G 580 dL_law_146 (by decide) (fun c45 => ?_) (fun c45 => ?_)
            · rw [if_pos c45] at h
              refine g_iinc (v := v24 + 3) (L' := [(3, .int (v24 + 3)), (0, .ref bs), (1, rv b (some a1)), (2, rv b (some a12))]) (pc := 580) G dL_law_580 3 rfl rfl (by decide) rfl ?_
              refine g_goto (pc := 583) G 18 dL_law_583 (by decide) ?_
              exact g_sub [1, 2, 3, 0] rfl (ih26 _ _ h)
            · rw [if_neg c45] at h
              refine g_iconst (pc := 149) G (v := 0) dL_law_149 (by decide) ?_
              exact absurd h (by decide)
          exact g_tabI (pc := 32) G 128 dL_law_32 (by rw [c30] <;> decide) (by rw [c30] <;> decide) (by rw [c30] <;> rfl) (by decide) K46
        · rw [if_neg c30] at h
          by_cases c47 : ((xs v24.toNatClampNeg) &&& 31) = 1
          · rw [if_pos c47] at h
            have K61 : WG p l e room_1 s m #[Value.ref bs] below meth c D ca b 4 (lw_Z below #[Value.ref bs] s) 182 15270 T19 V25 151 [(0, .ref bs), (1, rv b (some a1)), (2, rv b (some a12)), (3, .int v24)] [] := by
              refine g_aload_n (pc := 151) G dL_law_151 1 rfl ?_
              obtain ⟨r50, e49, h⟩ := bd_e h
              have k48 : kd T19 a1 = 8 := by
                obtain ⟨ee, k0⟩ := ck_e e49
                cases ee
                exact k0
              obtain ⟨r53, V52, e51, h⟩ := bd2_e h
              refine g_callV (pc := 152) (As := []) (rest := []) (st2 := [.int r53]) G (c_RS_wipe l D ca b k48 e51) (mb_RS_wipe G.2.2.2.2.1) (q434 G.2.2.2.2.1) (q435 G.2.2.2.2.1) (q433 G.2.2.2.2.1) ci_8 k48 rfl rfl (Nat.le_of_ble_eq_true rfl) ⟨Nat.le_trans (Nat.le_of_ble_eq_true rfl) hR.1, Nat.le_trans (Nat.le_of_ble_eq_true rfl) hR.2⟩ ⟨Nat.le_trans (Nat.le_of_ble_eq_true rfl) hC.1, Nat.le_trans (Nat.le_of_ble_eq_true rfl) hC.2⟩ rfl rfl dL_law_152 ?_
              refine g_aload_n (pc := 155) G dL_law_155 2 rfl ?_
              obtain ⟨r56, e55, h⟩ := bd_e h
              have k54 : kd T19 a12 = 9 := by
                obtain ⟨ee, k0⟩ := ck_e e55
                cases ee
                exact k0
              obtain ⟨r59, V58, e57, h⟩ := bd2_e h
              refine g_callV (pc := 156) (As := []) (rest := [.int r53]) (st2 := [.int r59, .int r53]) G (c_Mo_wipe l D ca b k54 e57) (mb_Mo_wipe G.2.2.2.2.1) (q845 G.2.2.2.2.1) (q846 G.2.2.2.2.1) (q844 G.2.2.2.2.1) ci_9 k54 rfl rfl (Nat.le_of_ble_eq_true rfl) ⟨Nat.le_trans (Nat.le_of_ble_eq_true rfl) hR.1, Nat.le_trans (Nat.le_of_ble_eq_true rfl) hR.2⟩ ⟨Nat.le_trans (Nat.le_of_ble_eq_true rfl) hC.1, Nat.le_trans (Nat.le_of_ble_eq_true rfl) hC.2⟩ rfl rfl dL_law_156 ?_
              refine g_icmp_eq (pc := 159) G 580 dL_law_159 (by decide) (fun c60 => ?_) (fun c60 => ?_)
              · rw [if_pos c60] at h
                refine g_iinc (v := v24 + 3) (L' := [(3, .int (v24 + 3)), (0, .ref bs), (1, rv b (some a1)), (2, rv b (some a12))]) (pc := 580) G dL_law_580 3 rfl rfl (by decide) rfl ?_
                refine g_goto (pc := 583) G 18 dL_law_583 (by decide) ?_
                exact g_sub [1, 2, 3, 0] rfl (ih26 _ _ h)
              · rw [if_neg c60] at h
                refine g_iconst (pc := 162) G (v := 0) dL_law_162 (by decide) ?_
                exact absurd h (by decide)
            exact g_tabI (pc := 32) G 151 dL_law_32 (by rw [c47] <;> decide) (by rw [c47] <;> decide) (by rw [c47] <;> rfl) (by decide) K61
          · rw [if_neg c47] at h
            by_cases c62 : ((xs v24.toNatClampNeg) &&& 31) = 2
            · rw [if_pos c62] at h
              have K76 : WG p l e room_1 s m #[Value.ref bs] below meth c D ca b 4 (lw_Z below #[Value.ref bs] s) 182 15270 T19 V25 164 [(0, .ref bs), (1, rv b (some a1)), (2, rv b (some a12)), (3, .int v24)] [] := by
                refine g_aload_n (pc := 164) G dL_law_164 1 rfl ?_
                obtain ⟨r65, e64, h⟩ := bd_e h
                have k63 : kd T19 a1 = 8 := by
                  obtain ⟨ee, k0⟩ := ck_e e64
                  cases ee
                  exact k0
                obtain ⟨r68, V67, e66, h⟩ := bd2_e h
                refine g_callV (pc := 165) (As := []) (rest := []) (st2 := [.int r68]) G (c_RS_fault l D ca b k63 e66) (mb_RS_fault G.2.2.2.2.1) (q439 G.2.2.2.2.1) (q440 G.2.2.2.2.1) (q438 G.2.2.2.2.1) ci_8 k63 rfl rfl (Nat.le_of_ble_eq_true rfl) ⟨Nat.le_trans (Nat.le_of_ble_eq_true rfl) hR.1, Nat.le_trans (Nat.le_of_ble_eq_true rfl) hR.2⟩ ⟨Nat.le_trans (Nat.le_of_ble_eq_true rfl) hC.1, Nat.le_trans (Nat.le_of_ble_eq_true rfl) hC.2⟩ rfl rfl dL_law_165 ?_
                refine g_aload_n (pc := 168) G dL_law_168 2 rfl ?_
                obtain ⟨r71, e70, h⟩ := bd_e h
                have k69 : kd T19 a12 = 9 := by
                  obtain ⟨ee, k0⟩ := ck_e e70
                  cases ee
                  exact k0
                obtain ⟨r74, V73, e72, h⟩ := bd2_e h
                refine g_callV (pc := 169) (As := []) (rest := [.int r68]) (st2 := [.int r74, .int r68]) G (c_Mo_fault l D ca b k69 e72) (mb_Mo_fault G.2.2.2.2.1) (q849 G.2.2.2.2.1) (q850 G.2.2.2.2.1) (q848 G.2.2.2.2.1) ci_9 k69 rfl rfl (Nat.le_of_ble_eq_true rfl) ⟨Nat.le_trans (Nat.le_of_ble_eq_true rfl) hR.1, Nat.le_trans (Nat.le_of_ble_eq_true rfl) hR.2⟩ ⟨Nat.le_trans (Nat.le_of_ble_eq_true rfl) hC.1, Nat.le_trans (Nat.le_of_ble_eq_true rfl) hC.2⟩ rfl rfl dL_law_169 ?_
                refine g_icmp_eq (pc := 172) G 580 dL_law_172 (by decide) (fun c75 => ?_) (fun c75 => ?_)
                · rw [if_pos c75] at h
                  refine g_iinc (v := v24 + 3) (L' := [(3, .int (v24 + 3)), (0, .ref bs), (1, rv b (some a1)), (2, rv b (some a12))]) (pc := 580) G dL_law_580 3 rfl rfl (by decide) rfl ?_
                  refine g_goto (pc := 583) G 18 dL_law_583 (by decide) ?_
                  exact g_sub [1, 2, 3, 0] rfl (ih26 _ _ h)
                · rw [if_neg c75] at h
                  refine g_iconst (pc := 175) G (v := 0) dL_law_175 (by decide) ?_
                  exact absurd h (by decide)
              exact g_tabI (pc := 32) G 164 dL_law_32 (by rw [c62] <;> decide) (by rw [c62] <;> decide) (by rw [c62] <;> rfl) (by decide) K76
            · rw [if_neg c62] at h
              by_cases c77 : ((xs v24.toNatClampNeg) &&& 31) = 3
              · rw [if_pos c77] at h
                have K91 : WG p l e room_1 s m #[Value.ref bs] below meth c D ca b 4 (lw_Z below #[Value.ref bs] s) 182 15270 T19 V25 177 [(0, .ref bs), (1, rv b (some a1)), (2, rv b (some a12)), (3, .int v24)] [] := by
                  refine g_aload_n (pc := 177) G dL_law_177 1 rfl ?_
                  obtain ⟨r80, e79, h⟩ := bd_e h
                  have k78 : kd T19 a1 = 8 := by
                    obtain ⟨ee, k0⟩ := ck_e e79
                    cases ee
                    exact k0
                  obtain ⟨r83, V82, e81, h⟩ := bd2_e h
                  refine g_callV (pc := 178) (As := []) (rest := []) (st2 := [.int r83]) G (c_RS_lay l D ca b k78 e81) (mb_RS_lay G.2.2.2.2.1) (q443 G.2.2.2.2.1) (q444 G.2.2.2.2.1) (q442 G.2.2.2.2.1) ci_8 k78 rfl rfl (Nat.le_of_ble_eq_true rfl) ⟨Nat.le_trans (Nat.le_of_ble_eq_true rfl) hR.1, Nat.le_trans (Nat.le_of_ble_eq_true rfl) hR.2⟩ ⟨Nat.le_trans (Nat.le_of_ble_eq_true rfl) hC.1, Nat.le_trans (Nat.le_of_ble_eq_true rfl) hC.2⟩ rfl rfl dL_law_178 ?_
                  refine g_aload_n (pc := 181) G dL_law_181 2 rfl ?_
                  obtain ⟨r86, e85, h⟩ := bd_e h
                  have k84 : kd T19 a12 = 9 := by
                    obtain ⟨ee, k0⟩ := ck_e e85
                    cases ee
                    exact k0
                  obtain ⟨r89, V88, e87, h⟩ := bd2_e h
                  refine g_callV (pc := 182) (As := []) (rest := [.int r83]) (st2 := [.int r89, .int r83]) G (c_Mo_lay l D ca b k84 e87) (mb_Mo_lay G.2.2.2.2.1) (q883 G.2.2.2.2.1) (q884 G.2.2.2.2.1) (q882 G.2.2.2.2.1) ci_9 k84 rfl rfl (Nat.le_of_ble_eq_true rfl) ⟨Nat.le_trans (Nat.le_of_ble_eq_true rfl) hR.1, Nat.le_trans (Nat.le_of_ble_eq_true rfl) hR.2⟩ ⟨Nat.le_trans (Nat.le_of_ble_eq_true rfl) hC.1, Nat.le_trans (Nat.le_of_ble_eq_true rfl) hC.2⟩ rfl rfl dL_law_182 ?_
                  refine g_icmp_eq (pc := 185) G 580 dL_law_185 (by decide) (fun c90 => ?_) (fun c90 => ?_)
                  · rw [if_pos c90] at h
                    refine g_iinc (v := v24 + 3) (L' := [(3, .int (v24 + 3)), (0, .ref bs), (1, rv b (some a1)), (2, rv b (some a12))]) (pc := 580) G dL_law_580 3 rfl rfl (by decide) rfl ?_
                    refine g_goto (pc := 583) G 18 dL_law_583 (by decide) ?_
                    exact g_sub [1, 2, 3, 0] rfl (ih26 _ _ h)
                  · rw [if_neg c90] at h
                    refine g_iconst (pc := 188) G (v := 0) dL_law_188 (by decide) ?_
                    exact absurd h (by decide)
                exact g_tabI (pc := 32) G 177 dL_law_32 (by rw [c77] <;> decide) (by rw [c77] <;> decide) (by rw [c77] <;> rfl) (by decide) K91
              · rw [if_neg c77] at h
                by_cases c92 : ((xs v24.toNatClampNeg) &&& 31) = 4
                · rw [if_pos c92] at h
                  have K110 : WG p l e room_1 s m #[Value.ref bs] below meth c D ca b 4 (lw_Z below #[Value.ref bs] s) 182 15270 T19 V25 190 [(0, .ref bs), (1, rv b (some a1)), (2, rv b (some a12)), (3, .int v24)] [] := by
                    refine g_aload_n (pc := 190) G dL_law_190 1 rfl ?_
                    refine g_aloadX (pc := 191) G dL_law_191 0 rfl ?_
                    refine g_iload_n (pc := 192) G dL_law_192 3 rfl ?_
                    refine g_iconst (pc := 193) G (v := 1) dL_law_193 (by decide) ?_
                    refine g_iadd (pc := 194) G dL_law_194 ?_
                    obtain ⟨b93, h⟩ := gd_e h
                    refine g_sld (pc := 195) G hX hbl hbs b93 dL_law_195 ?_
                    refine g_aloadX (pc := 196) G dL_law_196 0 rfl ?_
                    refine g_iload_n (pc := 197) G dL_law_197 3 rfl ?_
                    refine g_iconst (pc := 198) G (v := 2) dL_law_198 (by decide) ?_
                    refine g_iadd (pc := 199) G dL_law_199 ?_
                    obtain ⟨b94, h⟩ := gd_e h
                    refine g_sld (pc := 200) G hX hbl hbs b94 dL_law_200 ?_
                    obtain ⟨r97, e96, h⟩ := bd_e h
                    have k95 : kd T19 a1 = 8 := by
                      obtain ⟨ee, k0⟩ := ck_e e96
                      cases ee
                      exact k0
                    obtain ⟨r100, V99, e98, h⟩ := bd2_e h
                    refine g_callV (pc := 201) (As := [.int (xs (v24 + 1).toNatClampNeg), .int (xs (v24 + 2).toNatClampNeg)]) (rest := []) (st2 := [.int r100]) G (c_RS_strike l D ca b k95 e98) (mb_RS_strike G.2.2.2.2.1) (q459 G.2.2.2.2.1) (q460 G.2.2.2.2.1) (q458 G.2.2.2.2.1) ci_8 k95 rfl rfl (Nat.le_of_ble_eq_true rfl) ⟨Nat.le_trans (Nat.le_of_ble_eq_true rfl) hR.1, Nat.le_trans (Nat.le_of_ble_eq_true rfl) hR.2⟩ ⟨Nat.le_trans (Nat.le_of_ble_eq_true rfl) hC.1, Nat.le_trans (Nat.le_of_ble_eq_true rfl) hC.2⟩ rfl rfl dL_law_201 ?_
                    refine g_aload_n (pc := 204) G dL_law_204 2 rfl ?_
                    refine g_aloadX (pc := 205) G dL_law_205 0 rfl ?_
                    refine g_iload_n (pc := 206) G dL_law_206 3 rfl ?_
                    refine g_iconst (pc := 207) G (v := 1) dL_law_207 (by decide) ?_
                    refine g_iadd (pc := 208) G dL_law_208 ?_
                    obtain ⟨b101, h⟩ := gd_e h
                    refine g_sld (pc := 209) G hX hbl hbs b101 dL_law_209 ?_
                    refine g_aloadX (pc := 210) G dL_law_210 0 rfl ?_
                    refine g_iload_n (pc := 211) G dL_law_211 3 rfl ?_
                    refine g_iconst (pc := 212) G (v := 2) dL_law_212 (by decide) ?_
                    refine g_iadd (pc := 213) G dL_law_213 ?_
                    obtain ⟨b102, h⟩ := gd_e h
                    refine g_sld (pc := 214) G hX hbl hbs b102 dL_law_214 ?_
                    obtain ⟨r105, e104, h⟩ := bd_e h
                    have k103 : kd T19 a12 = 9 := by
                      obtain ⟨ee, k0⟩ := ck_e e104
                      cases ee
                      exact k0
                    obtain ⟨r108, V107, e106, h⟩ := bd2_e h
                    refine g_callV (pc := 215) (As := [.int (xs (v24 + 1).toNatClampNeg), .int (xs (v24 + 2).toNatClampNeg)]) (rest := [.int r100]) (st2 := [.int r108, .int r100]) G (c_Mo_strike l D ca b k103 e106) (mb_Mo_strike G.2.2.2.2.1) (q892 G.2.2.2.2.1) (q893 G.2.2.2.2.1) (q891 G.2.2.2.2.1) ci_9 k103 rfl rfl (Nat.le_of_ble_eq_true rfl) ⟨Nat.le_trans (Nat.le_of_ble_eq_true rfl) hR.1, Nat.le_trans (Nat.le_of_ble_eq_true rfl) hR.2⟩ ⟨Nat.le_trans (Nat.le_of_ble_eq_true rfl) hC.1, Nat.le_trans (Nat.le_of_ble_eq_true rfl) hC.2⟩ rfl rfl dL_law_215 ?_
                    refine g_icmp_eq (pc := 218) G 580 dL_law_218 (by decide) (fun c109 => ?_) (fun c109 => ?_)
                    · rw [if_pos c109] at h
                      refine g_iinc (v := v24 + 3) (L' := [(3, .int (v24 + 3)), (0, .ref bs), (1, rv b (some a1)), (2, rv b (some a12))]) (pc := 580) G dL_law_580 3 rfl rfl (by decide) rfl ?_
                      refine g_goto (pc := 583) G 18 dL_law_583 (by decide) ?_
                      exact g_sub [1, 2, 3, 0] rfl (ih26 _ _ h)
                    · rw [if_neg c109] at h
                      refine g_iconst (pc := 221) G (v := 0) dL_law_221 (by decide) ?_
                      exact absurd h (by decide)
                  exact g_tabI (pc := 32) G 190 dL_law_32 (by rw [c92] <;> decide) (by rw [c92] <;> decide) (by rw [c92] <;> rfl) (by decide) K110
                · rw [if_neg c92] at h
                  by_cases c111 : ((xs v24.toNatClampNeg) &&& 31) = 5
                  · rw [if_pos c111] at h
                    have K127 : WG p l e room_1 s m #[Value.ref bs] below meth c D ca b 4 (lw_Z below #[Value.ref bs] s) 182 15270 T19 V25 223 [(0, .ref bs), (1, rv b (some a1)), (2, rv b (some a12)), (3, .int v24)] [] := by
                      refine g_aload_n (pc := 223) G dL_law_223 1 rfl ?_
                      refine g_aloadX (pc := 224) G dL_law_224 0 rfl ?_
                      refine g_iload_n (pc := 225) G dL_law_225 3 rfl ?_
                      refine g_iconst (pc := 226) G (v := 1) dL_law_226 (by decide) ?_
                      refine g_iadd (pc := 227) G dL_law_227 ?_
                      obtain ⟨b112, h⟩ := gd_e h
                      refine g_sld (pc := 228) G hX hbl hbs b112 dL_law_228 ?_
                      obtain ⟨r115, e114, h⟩ := bd_e h
                      have k113 : kd T19 a1 = 8 := by
                        obtain ⟨ee, k0⟩ := ck_e e114
                        cases ee
                        exact k0
                      obtain ⟨r118, V117, e116, h⟩ := bd2_e h
                      refine g_callV (pc := 229) (As := [.int (xs (v24 + 1).toNatClampNeg)]) (rest := []) (st2 := [.int r118]) G (c_RS_law l D ca b k113 e116) (mb_RS_law G.2.2.2.2.1) (q484 G.2.2.2.2.1) (q485 G.2.2.2.2.1) (q483 G.2.2.2.2.1) ci_8 k113 rfl rfl (Nat.le_of_ble_eq_true rfl) ⟨Nat.le_trans (Nat.le_of_ble_eq_true rfl) hR.1, Nat.le_trans (Nat.le_of_ble_eq_true rfl) hR.2⟩ ⟨Nat.le_trans (Nat.le_of_ble_eq_true rfl) hC.1, Nat.le_trans (Nat.le_of_ble_eq_true rfl) hC.2⟩ rfl rfl dL_law_229 ?_
                      refine g_aload_n (pc := 232) G dL_law_232 2 rfl ?_
                      refine g_aloadX (pc := 233) G dL_law_233 0 rfl ?_
                      refine g_iload_n (pc := 234) G dL_law_234 3 rfl ?_
                      refine g_iconst (pc := 235) G (v := 1) dL_law_235 (by decide) ?_
                      refine g_iadd (pc := 236) G dL_law_236 ?_
                      obtain ⟨b119, h⟩ := gd_e h
                      refine g_sld (pc := 237) G hX hbl hbs b119 dL_law_237 ?_
                      obtain ⟨r122, e121, h⟩ := bd_e h
                      have k120 : kd T19 a12 = 9 := by
                        obtain ⟨ee, k0⟩ := ck_e e121
                        cases ee
                        exact k0
                      obtain ⟨r125, V124, e123, h⟩ := bd2_e h
                      refine g_callV (pc := 238) (As := [.int (xs (v24 + 1).toNatClampNeg)]) (rest := [.int r118]) (st2 := [.int r125, .int r118]) G (c_Mo_law l D ca b k120 e123) (mb_Mo_law G.2.2.2.2.1) (q911 G.2.2.2.2.1) (q912 G.2.2.2.2.1) (q910 G.2.2.2.2.1) ci_9 k120 rfl rfl (Nat.le_of_ble_eq_true rfl) ⟨Nat.le_trans (Nat.le_of_ble_eq_true rfl) hR.1, Nat.le_trans (Nat.le_of_ble_eq_true rfl) hR.2⟩ ⟨Nat.le_trans (Nat.le_of_ble_eq_true rfl) hC.1, Nat.le_trans (Nat.le_of_ble_eq_true rfl) hC.2⟩ rfl rfl dL_law_238 ?_
                      refine g_icmp_eq (pc := 241) G 580 dL_law_241 (by decide) (fun c126 => ?_) (fun c126 => ?_)
                      · rw [if_pos c126] at h
                        refine g_iinc (v := v24 + 3) (L' := [(3, .int (v24 + 3)), (0, .ref bs), (1, rv b (some a1)), (2, rv b (some a12))]) (pc := 580) G dL_law_580 3 rfl rfl (by decide) rfl ?_
                        refine g_goto (pc := 583) G 18 dL_law_583 (by decide) ?_
                        exact g_sub [1, 2, 3, 0] rfl (ih26 _ _ h)
                      · rw [if_neg c126] at h
                        refine g_iconst (pc := 244) G (v := 0) dL_law_244 (by decide) ?_
                        exact absurd h (by decide)
                    exact g_tabI (pc := 32) G 223 dL_law_32 (by rw [c111] <;> decide) (by rw [c111] <;> decide) (by rw [c111] <;> rfl) (by decide) K127
                  · rw [if_neg c111] at h
                    by_cases c128 : ((xs v24.toNatClampNeg) &&& 31) = 6
                    · rw [if_pos c128] at h
                      have K144 : WG p l e room_1 s m #[Value.ref bs] below meth c D ca b 4 (lw_Z below #[Value.ref bs] s) 182 15270 T19 V25 246 [(0, .ref bs), (1, rv b (some a1)), (2, rv b (some a12)), (3, .int v24)] [] := by
                        refine g_aload_n (pc := 246) G dL_law_246 1 rfl ?_
                        refine g_aloadX (pc := 247) G dL_law_247 0 rfl ?_
                        refine g_iload_n (pc := 248) G dL_law_248 3 rfl ?_
                        refine g_iconst (pc := 249) G (v := 1) dL_law_249 (by decide) ?_
                        refine g_iadd (pc := 250) G dL_law_250 ?_
                        obtain ⟨b129, h⟩ := gd_e h
                        refine g_sld (pc := 251) G hX hbl hbs b129 dL_law_251 ?_
                        obtain ⟨r132, e131, h⟩ := bd_e h
                        have k130 : kd T19 a1 = 8 := by
                          obtain ⟨ee, k0⟩ := ck_e e131
                          cases ee
                          exact k0
                        obtain ⟨r135, V134, e133, h⟩ := bd2_e h
                        refine g_callV (pc := 252) (As := [.int (xs (v24 + 1).toNatClampNeg)]) (rest := []) (st2 := [.int r135]) G (c_RS_carve l D ca b k130 e133) (mb_RS_carve G.2.2.2.2.1) (q496 G.2.2.2.2.1) (q497 G.2.2.2.2.1) (q495 G.2.2.2.2.1) ci_8 k130 rfl rfl (Nat.le_of_ble_eq_true rfl) ⟨Nat.le_trans (Nat.le_of_ble_eq_true rfl) hR.1, Nat.le_trans (Nat.le_of_ble_eq_true rfl) hR.2⟩ ⟨Nat.le_trans (Nat.le_of_ble_eq_true rfl) hC.1, Nat.le_trans (Nat.le_of_ble_eq_true rfl) hC.2⟩ rfl rfl dL_law_252 ?_
                        refine g_aload_n (pc := 255) G dL_law_255 2 rfl ?_
                        refine g_aloadX (pc := 256) G dL_law_256 0 rfl ?_
                        refine g_iload_n (pc := 257) G dL_law_257 3 rfl ?_
                        refine g_iconst (pc := 258) G (v := 1) dL_law_258 (by decide) ?_
                        refine g_iadd (pc := 259) G dL_law_259 ?_
                        obtain ⟨b136, h⟩ := gd_e h
                        refine g_sld (pc := 260) G hX hbl hbs b136 dL_law_260 ?_
                        obtain ⟨r139, e138, h⟩ := bd_e h
                        have k137 : kd T19 a12 = 9 := by
                          obtain ⟨ee, k0⟩ := ck_e e138
                          cases ee
                          exact k0
                        obtain ⟨r142, V141, e140, h⟩ := bd2_e h
                        refine g_callV (pc := 261) (As := [.int (xs (v24 + 1).toNatClampNeg)]) (rest := [.int r135]) (st2 := [.int r142, .int r135]) G (c_Mo_carve l D ca b k137 e140) (mb_Mo_carve G.2.2.2.2.1) (q915 G.2.2.2.2.1) (q916 G.2.2.2.2.1) (q914 G.2.2.2.2.1) ci_9 k137 rfl rfl (Nat.le_of_ble_eq_true rfl) ⟨Nat.le_trans (Nat.le_of_ble_eq_true rfl) hR.1, Nat.le_trans (Nat.le_of_ble_eq_true rfl) hR.2⟩ ⟨Nat.le_trans (Nat.le_of_ble_eq_true rfl) hC.1, Nat.le_trans (Nat.le_of_ble_eq_true rfl) hC.2⟩ rfl rfl dL_law_261 ?_
                        refine g_icmp_eq (pc := 264) G 580 dL_law_264 (by decide) (fun c143 => ?_) (fun c143 => ?_)
                        · rw [if_pos c143] at h
                          refine g_iinc (v := v24 + 3) (L' := [(3, .int (v24 + 3)), (0, .ref bs), (1, rv b (some a1)), (2, rv b (some a12))]) (pc := 580) G dL_law_580 3 rfl rfl (by decide) rfl ?_
                          refine g_goto (pc := 583) G 18 dL_law_583 (by decide) ?_
                          exact g_sub [1, 2, 3, 0] rfl (ih26 _ _ h)
                        · rw [if_neg c143] at h
                          refine g_iconst (pc := 267) G (v := 0) dL_law_267 (by decide) ?_
                          exact absurd h (by decide)
                      exact g_tabI (pc := 32) G 246 dL_law_32 (by rw [c128] <;> decide) (by rw [c128] <;> decide) (by rw [c128] <;> rfl) (by decide) K144
                    · rw [if_neg c128] at h
                      by_cases c145 : ((xs v24.toNatClampNeg) &&& 31) = 7
                      · rw [if_pos c145] at h
                        have K159 : WG p l e room_1 s m #[Value.ref bs] below meth c D ca b 4 (lw_Z below #[Value.ref bs] s) 182 15270 T19 V25 269 [(0, .ref bs), (1, rv b (some a1)), (2, rv b (some a12)), (3, .int v24)] [] := by
                          refine g_aload_n (pc := 269) G dL_law_269 1 rfl ?_
                          obtain ⟨r148, e147, h⟩ := bd_e h
                          have k146 : kd T19 a1 = 8 := by
                            obtain ⟨ee, k0⟩ := ck_e e147
                            cases ee
                            exact k0
                          obtain ⟨r151, V150, e149, h⟩ := bd2_e h
                          refine g_callV (pc := 270) (As := []) (rest := []) (st2 := [.int r151]) G (c_RS_chip l D ca b k146 e149) (mb_RS_chip G.2.2.2.2.1) (q512 G.2.2.2.2.1) (q513 G.2.2.2.2.1) (q511 G.2.2.2.2.1) ci_8 k146 rfl rfl (Nat.le_of_ble_eq_true rfl) ⟨Nat.le_trans (Nat.le_of_ble_eq_true rfl) hR.1, Nat.le_trans (Nat.le_of_ble_eq_true rfl) hR.2⟩ ⟨Nat.le_trans (Nat.le_of_ble_eq_true rfl) hC.1, Nat.le_trans (Nat.le_of_ble_eq_true rfl) hC.2⟩ rfl rfl dL_law_270 ?_
                          refine g_aload_n (pc := 273) G dL_law_273 2 rfl ?_
                          obtain ⟨r154, e153, h⟩ := bd_e h
                          have k152 : kd T19 a12 = 9 := by
                            obtain ⟨ee, k0⟩ := ck_e e153
                            cases ee
                            exact k0
                          obtain ⟨r157, V156, e155, h⟩ := bd2_e h
                          refine g_callV (pc := 274) (As := []) (rest := [.int r151]) (st2 := [.int r157, .int r151]) G (c_Mo_chip l D ca b k152 e155) (mb_Mo_chip G.2.2.2.2.1) (q919 G.2.2.2.2.1) (q920 G.2.2.2.2.1) (q918 G.2.2.2.2.1) ci_9 k152 rfl rfl (Nat.le_of_ble_eq_true rfl) ⟨Nat.le_trans (Nat.le_of_ble_eq_true rfl) hR.1, Nat.le_trans (Nat.le_of_ble_eq_true rfl) hR.2⟩ ⟨Nat.le_trans (Nat.le_of_ble_eq_true rfl) hC.1, Nat.le_trans (Nat.le_of_ble_eq_true rfl) hC.2⟩ rfl rfl dL_law_274 ?_
                          refine g_icmp_eq (pc := 277) G 580 dL_law_277 (by decide) (fun c158 => ?_) (fun c158 => ?_)
                          · rw [if_pos c158] at h
                            refine g_iinc (v := v24 + 3) (L' := [(3, .int (v24 + 3)), (0, .ref bs), (1, rv b (some a1)), (2, rv b (some a12))]) (pc := 580) G dL_law_580 3 rfl rfl (by decide) rfl ?_
                            refine g_goto (pc := 583) G 18 dL_law_583 (by decide) ?_
                            exact g_sub [1, 2, 3, 0] rfl (ih26 _ _ h)
                          · rw [if_neg c158] at h
                            refine g_iconst (pc := 280) G (v := 0) dL_law_280 (by decide) ?_
                            exact absurd h (by decide)
                        exact g_tabI (pc := 32) G 269 dL_law_32 (by rw [c145] <;> decide) (by rw [c145] <;> decide) (by rw [c145] <;> rfl) (by decide) K159
                      · rw [if_neg c145] at h
                        by_cases c160 : ((xs v24.toNatClampNeg) &&& 31) = 8
                        · rw [if_pos c160] at h
                          have K174 : WG p l e room_1 s m #[Value.ref bs] below meth c D ca b 4 (lw_Z below #[Value.ref bs] s) 182 15270 T19 V25 282 [(0, .ref bs), (1, rv b (some a1)), (2, rv b (some a12)), (3, .int v24)] [] := by
                            refine g_aload_n (pc := 282) G dL_law_282 1 rfl ?_
                            obtain ⟨r163, e162, h⟩ := bd_e h
                            have k161 : kd T19 a1 = 8 := by
                              obtain ⟨ee, k0⟩ := ck_e e162
                              cases ee
                              exact k0
                            obtain ⟨r166, V165, e164, h⟩ := bd2_e h
                            refine g_callV (pc := 283) (As := []) (rest := []) (st2 := [.int r166]) G (c_RS_undo l D ca b k161 e164) (mb_RS_undo G.2.2.2.2.1) (q524 G.2.2.2.2.1) (q525 G.2.2.2.2.1) (q523 G.2.2.2.2.1) ci_8 k161 rfl rfl (Nat.le_of_ble_eq_true rfl) ⟨Nat.le_trans (Nat.le_of_ble_eq_true rfl) hR.1, Nat.le_trans (Nat.le_of_ble_eq_true rfl) hR.2⟩ ⟨Nat.le_trans (Nat.le_of_ble_eq_true rfl) hC.1, Nat.le_trans (Nat.le_of_ble_eq_true rfl) hC.2⟩ rfl rfl dL_law_283 ?_
                            refine g_aload_n (pc := 286) G dL_law_286 2 rfl ?_
                            obtain ⟨r169, e168, h⟩ := bd_e h
                            have k167 : kd T19 a12 = 9 := by
                              obtain ⟨ee, k0⟩ := ck_e e168
                              cases ee
                              exact k0
                            obtain ⟨r172, V171, e170, h⟩ := bd2_e h
                            refine g_callV (pc := 287) (As := []) (rest := [.int r166]) (st2 := [.int r172, .int r166]) G (c_Mo_undo l D ca b k167 e170) (mb_Mo_undo G.2.2.2.2.1) (q888 G.2.2.2.2.1) (q889 G.2.2.2.2.1) (q887 G.2.2.2.2.1) ci_9 k167 rfl rfl (Nat.le_of_ble_eq_true rfl) ⟨Nat.le_trans (Nat.le_of_ble_eq_true rfl) hR.1, Nat.le_trans (Nat.le_of_ble_eq_true rfl) hR.2⟩ ⟨Nat.le_trans (Nat.le_of_ble_eq_true rfl) hC.1, Nat.le_trans (Nat.le_of_ble_eq_true rfl) hC.2⟩ rfl rfl dL_law_287 ?_
                            refine g_icmp_eq (pc := 290) G 580 dL_law_290 (by decide) (fun c173 => ?_) (fun c173 => ?_)
                            · rw [if_pos c173] at h
                              refine g_iinc (v := v24 + 3) (L' := [(3, .int (v24 + 3)), (0, .ref bs), (1, rv b (some a1)), (2, rv b (some a12))]) (pc := 580) G dL_law_580 3 rfl rfl (by decide) rfl ?_
                              refine g_goto (pc := 583) G 18 dL_law_583 (by decide) ?_
                              exact g_sub [1, 2, 3, 0] rfl (ih26 _ _ h)
                            · rw [if_neg c173] at h
                              refine g_iconst (pc := 293) G (v := 0) dL_law_293 (by decide) ?_
                              exact absurd h (by decide)
                          exact g_tabI (pc := 32) G 282 dL_law_32 (by rw [c160] <;> decide) (by rw [c160] <;> decide) (by rw [c160] <;> rfl) (by decide) K174
                        · rw [if_neg c160] at h
                          by_cases c175 : ((xs v24.toNatClampNeg) &&& 31) = 9
                          · rw [if_pos c175] at h
                            have K193 : WG p l e room_1 s m #[Value.ref bs] below meth c D ca b 4 (lw_Z below #[Value.ref bs] s) 182 15270 T19 V25 295 [(0, .ref bs), (1, rv b (some a1)), (2, rv b (some a12)), (3, .int v24)] [] := by
                              refine g_aload_n (pc := 295) G dL_law_295 1 rfl ?_
                              refine g_aloadX (pc := 296) G dL_law_296 0 rfl ?_
                              refine g_iload_n (pc := 297) G dL_law_297 3 rfl ?_
                              refine g_iconst (pc := 298) G (v := 1) dL_law_298 (by decide) ?_
                              refine g_iadd (pc := 299) G dL_law_299 ?_
                              obtain ⟨b176, h⟩ := gd_e h
                              refine g_sld (pc := 300) G hX hbl hbs b176 dL_law_300 ?_
                              refine g_aloadX (pc := 301) G dL_law_301 0 rfl ?_
                              refine g_iload_n (pc := 302) G dL_law_302 3 rfl ?_
                              refine g_iconst (pc := 303) G (v := 2) dL_law_303 (by decide) ?_
                              refine g_iadd (pc := 304) G dL_law_304 ?_
                              obtain ⟨b177, h⟩ := gd_e h
                              refine g_sld (pc := 305) G hX hbl hbs b177 dL_law_305 ?_
                              obtain ⟨r180, e179, h⟩ := bd_e h
                              have k178 : kd T19 a1 = 8 := by
                                obtain ⟨ee, k0⟩ := ck_e e179
                                cases ee
                                exact k0
                              obtain ⟨r183, V182, e181, h⟩ := bd2_e h
                              refine g_callV (pc := 306) (As := [.int (xs (v24 + 1).toNatClampNeg), .int (xs (v24 + 2).toNatClampNeg)]) (rest := []) (st2 := [.int r183]) G (c_RS_sign l D ca b k178 e181) (mb_RS_sign G.2.2.2.2.1) (q544 G.2.2.2.2.1) (q545 G.2.2.2.2.1) (q543 G.2.2.2.2.1) ci_8 k178 rfl rfl (Nat.le_of_ble_eq_true rfl) ⟨Nat.le_trans (Nat.le_of_ble_eq_true rfl) hR.1, Nat.le_trans (Nat.le_of_ble_eq_true rfl) hR.2⟩ ⟨Nat.le_trans (Nat.le_of_ble_eq_true rfl) hC.1, Nat.le_trans (Nat.le_of_ble_eq_true rfl) hC.2⟩ rfl rfl dL_law_306 ?_
                              refine g_aload_n (pc := 309) G dL_law_309 2 rfl ?_
                              refine g_aloadX (pc := 310) G dL_law_310 0 rfl ?_
                              refine g_iload_n (pc := 311) G dL_law_311 3 rfl ?_
                              refine g_iconst (pc := 312) G (v := 1) dL_law_312 (by decide) ?_
                              refine g_iadd (pc := 313) G dL_law_313 ?_
                              obtain ⟨b184, h⟩ := gd_e h
                              refine g_sld (pc := 314) G hX hbl hbs b184 dL_law_314 ?_
                              refine g_aloadX (pc := 315) G dL_law_315 0 rfl ?_
                              refine g_iload_n (pc := 316) G dL_law_316 3 rfl ?_
                              refine g_iconst (pc := 317) G (v := 2) dL_law_317 (by decide) ?_
                              refine g_iadd (pc := 318) G dL_law_318 ?_
                              obtain ⟨b185, h⟩ := gd_e h
                              refine g_sld (pc := 319) G hX hbl hbs b185 dL_law_319 ?_
                              obtain ⟨r188, e187, h⟩ := bd_e h
                              have k186 : kd T19 a12 = 9 := by
                                obtain ⟨ee, k0⟩ := ck_e e187
                                cases ee
                                exact k0
                              obtain ⟨r191, V190, e189, h⟩ := bd2_e h
                              refine g_callV (pc := 320) (As := [.int (xs (v24 + 1).toNatClampNeg), .int (xs (v24 + 2).toNatClampNeg)]) (rest := [.int r183]) (st2 := [.int r191, .int r183]) G (c_Mo_sign l D ca b k186 e189) (mb_Mo_sign G.2.2.2.2.1) (q923 G.2.2.2.2.1) (q924 G.2.2.2.2.1) (q922 G.2.2.2.2.1) ci_9 k186 rfl rfl (Nat.le_of_ble_eq_true rfl) ⟨Nat.le_trans (Nat.le_of_ble_eq_true rfl) hR.1, Nat.le_trans (Nat.le_of_ble_eq_true rfl) hR.2⟩ ⟨Nat.le_trans (Nat.le_of_ble_eq_true rfl) hC.1, Nat.le_trans (Nat.le_of_ble_eq_true rfl) hC.2⟩ rfl rfl dL_law_320 ?_
                              refine g_icmp_eq (pc := 323) G 580 dL_law_323 (by decide) (fun c192 => ?_) (fun c192 => ?_)
                              · rw [if_pos c192] at h
                                refine g_iinc (v := v24 + 3) (L' := [(3, .int (v24 + 3)), (0, .ref bs), (1, rv b (some a1)), (2, rv b (some a12))]) (pc := 580) G dL_law_580 3 rfl rfl (by decide) rfl ?_
                                refine g_goto (pc := 583) G 18 dL_law_583 (by decide) ?_
                                exact g_sub [1, 2, 3, 0] rfl (ih26 _ _ h)
                              · rw [if_neg c192] at h
                                refine g_iconst (pc := 326) G (v := 0) dL_law_326 (by decide) ?_
                                exact absurd h (by decide)
                            exact g_tabI (pc := 32) G 295 dL_law_32 (by rw [c175] <;> decide) (by rw [c175] <;> decide) (by rw [c175] <;> rfl) (by decide) K193
                          · rw [if_neg c175] at h
                            by_cases c194 : ((xs v24.toNatClampNeg) &&& 31) = 10
                            · rw [if_pos c194] at h
                              have K212 : WG p l e room_1 s m #[Value.ref bs] below meth c D ca b 4 (lw_Z below #[Value.ref bs] s) 182 15270 T19 V25 328 [(0, .ref bs), (1, rv b (some a1)), (2, rv b (some a12)), (3, .int v24)] [] := by
                                refine g_aload_n (pc := 328) G dL_law_328 1 rfl ?_
                                refine g_aloadX (pc := 329) G dL_law_329 0 rfl ?_
                                refine g_iload_n (pc := 330) G dL_law_330 3 rfl ?_
                                refine g_iconst (pc := 331) G (v := 1) dL_law_331 (by decide) ?_
                                refine g_iadd (pc := 332) G dL_law_332 ?_
                                obtain ⟨b195, h⟩ := gd_e h
                                refine g_sld (pc := 333) G hX hbl hbs b195 dL_law_333 ?_
                                refine g_aloadX (pc := 334) G dL_law_334 0 rfl ?_
                                refine g_iload_n (pc := 335) G dL_law_335 3 rfl ?_
                                refine g_iconst (pc := 336) G (v := 2) dL_law_336 (by decide) ?_
                                refine g_iadd (pc := 337) G dL_law_337 ?_
                                obtain ⟨b196, h⟩ := gd_e h
                                refine g_sld (pc := 338) G hX hbl hbs b196 dL_law_338 ?_
                                obtain ⟨r199, e198, h⟩ := bd_e h
                                have k197 : kd T19 a1 = 8 := by
                                  obtain ⟨ee, k0⟩ := ck_e e198
                                  cases ee
                                  exact k0
                                obtain ⟨r202, V201, e200, h⟩ := bd2_e h
                                refine g_callV (pc := 339) (As := [.int (xs (v24 + 1).toNatClampNeg), .int (xs (v24 + 2).toNatClampNeg)]) (rest := []) (st2 := [.int r202]) G (c_RS_word l D ca b k197 e200) (mb_RS_word G.2.2.2.2.1) (q589 G.2.2.2.2.1) (q590 G.2.2.2.2.1) (q588 G.2.2.2.2.1) ci_8 k197 rfl rfl (Nat.le_of_ble_eq_true rfl) ⟨Nat.le_trans (Nat.le_of_ble_eq_true rfl) hR.1, Nat.le_trans (Nat.le_of_ble_eq_true rfl) hR.2⟩ ⟨Nat.le_trans (Nat.le_of_ble_eq_true rfl) hC.1, Nat.le_trans (Nat.le_of_ble_eq_true rfl) hC.2⟩ rfl rfl dL_law_339 ?_
                                refine g_aload_n (pc := 342) G dL_law_342 2 rfl ?_
                                refine g_aloadX (pc := 343) G dL_law_343 0 rfl ?_
                                refine g_iload_n (pc := 344) G dL_law_344 3 rfl ?_
                                refine g_iconst (pc := 345) G (v := 1) dL_law_345 (by decide) ?_
                                refine g_iadd (pc := 346) G dL_law_346 ?_
                                obtain ⟨b203, h⟩ := gd_e h
                                refine g_sld (pc := 347) G hX hbl hbs b203 dL_law_347 ?_
                                refine g_aloadX (pc := 348) G dL_law_348 0 rfl ?_
                                refine g_iload_n (pc := 349) G dL_law_349 3 rfl ?_
                                refine g_iconst (pc := 350) G (v := 2) dL_law_350 (by decide) ?_
                                refine g_iadd (pc := 351) G dL_law_351 ?_
                                obtain ⟨b204, h⟩ := gd_e h
                                refine g_sld (pc := 352) G hX hbl hbs b204 dL_law_352 ?_
                                obtain ⟨r207, e206, h⟩ := bd_e h
                                have k205 : kd T19 a12 = 9 := by
                                  obtain ⟨ee, k0⟩ := ck_e e206
                                  cases ee
                                  exact k0
                                obtain ⟨r210, V209, e208, h⟩ := bd2_e h
                                refine g_callV (pc := 353) (As := [.int (xs (v24 + 1).toNatClampNeg), .int (xs (v24 + 2).toNatClampNeg)]) (rest := [.int r202]) (st2 := [.int r210, .int r202]) G (c_Mo_word l D ca b k205 e208) (mb_Mo_word G.2.2.2.2.1) (q984 G.2.2.2.2.1) (q985 G.2.2.2.2.1) (q983 G.2.2.2.2.1) ci_9 k205 rfl rfl (Nat.le_of_ble_eq_true rfl) ⟨Nat.le_trans (Nat.le_of_ble_eq_true rfl) hR.1, Nat.le_trans (Nat.le_of_ble_eq_true rfl) hR.2⟩ ⟨Nat.le_trans (Nat.le_of_ble_eq_true rfl) hC.1, Nat.le_trans (Nat.le_of_ble_eq_true rfl) hC.2⟩ rfl rfl dL_law_353 ?_
                                refine g_icmp_eq (pc := 356) G 580 dL_law_356 (by decide) (fun c211 => ?_) (fun c211 => ?_)
                                · rw [if_pos c211] at h
                                  refine g_iinc (v := v24 + 3) (L' := [(3, .int (v24 + 3)), (0, .ref bs), (1, rv b (some a1)), (2, rv b (some a12))]) (pc := 580) G dL_law_580 3 rfl rfl (by decide) rfl ?_
                                  refine g_goto (pc := 583) G 18 dL_law_583 (by decide) ?_
                                  exact g_sub [1, 2, 3, 0] rfl (ih26 _ _ h)
                                · rw [if_neg c211] at h
                                  refine g_iconst (pc := 359) G (v := 0) dL_law_359 (by decide) ?_
                                  exact absurd h (by decide)
                              exact g_tabI (pc := 32) G 328 dL_law_32 (by rw [c194] <;> decide) (by rw [c194] <;> decide) (by rw [c194] <;> rfl) (by decide) K212
                            · rw [if_neg c194] at h
                              by_cases c213 : ((xs v24.toNatClampNeg) &&& 31) = 11
                              · rw [if_pos c213] at h
                                have K231 : WG p l e room_1 s m #[Value.ref bs] below meth c D ca b 4 (lw_Z below #[Value.ref bs] s) 182 15270 T19 V25 361 [(0, .ref bs), (1, rv b (some a1)), (2, rv b (some a12)), (3, .int v24)] [] := by
                                  refine g_aload_n (pc := 361) G dL_law_361 1 rfl ?_
                                  refine g_aloadX (pc := 362) G dL_law_362 0 rfl ?_
                                  refine g_iload_n (pc := 363) G dL_law_363 3 rfl ?_
                                  refine g_iconst (pc := 364) G (v := 1) dL_law_364 (by decide) ?_
                                  refine g_iadd (pc := 365) G dL_law_365 ?_
                                  obtain ⟨b214, h⟩ := gd_e h
                                  refine g_sld (pc := 366) G hX hbl hbs b214 dL_law_366 ?_
                                  refine g_aloadX (pc := 367) G dL_law_367 0 rfl ?_
                                  refine g_iload_n (pc := 368) G dL_law_368 3 rfl ?_
                                  refine g_iconst (pc := 369) G (v := 2) dL_law_369 (by decide) ?_
                                  refine g_iadd (pc := 370) G dL_law_370 ?_
                                  obtain ⟨b215, h⟩ := gd_e h
                                  refine g_sld (pc := 371) G hX hbl hbs b215 dL_law_371 ?_
                                  obtain ⟨r218, e217, h⟩ := bd_e h
                                  have k216 : kd T19 a1 = 8 := by
                                    obtain ⟨ee, k0⟩ := ck_e e217
                                    cases ee
                                    exact k0
                                  obtain ⟨r221, V220, e219, h⟩ := bd2_e h
                                  refine g_callV (pc := 372) (As := [.int (xs (v24 + 1).toNatClampNeg), .int (xs (v24 + 2).toNatClampNeg)]) (rest := []) (st2 := [.int r221]) G (c_RS_least l D ca b k216 e219) (mb_RS_least G.2.2.2.2.1) (q647 G.2.2.2.2.1) (q648 G.2.2.2.2.1) (q646 G.2.2.2.2.1) ci_8 k216 rfl rfl (Nat.le_of_ble_eq_true rfl) ⟨Nat.le_trans (Nat.le_of_ble_eq_true rfl) hR.1, Nat.le_trans (Nat.le_of_ble_eq_true rfl) hR.2⟩ ⟨Nat.le_trans (Nat.le_of_ble_eq_true rfl) hC.1, Nat.le_trans (Nat.le_of_ble_eq_true rfl) hC.2⟩ rfl rfl dL_law_372 ?_
                                  refine g_aload_n (pc := 375) G dL_law_375 2 rfl ?_
                                  refine g_aloadX (pc := 376) G dL_law_376 0 rfl ?_
                                  refine g_iload_n (pc := 377) G dL_law_377 3 rfl ?_
                                  refine g_iconst (pc := 378) G (v := 1) dL_law_378 (by decide) ?_
                                  refine g_iadd (pc := 379) G dL_law_379 ?_
                                  obtain ⟨b222, h⟩ := gd_e h
                                  refine g_sld (pc := 380) G hX hbl hbs b222 dL_law_380 ?_
                                  refine g_aloadX (pc := 381) G dL_law_381 0 rfl ?_
                                  refine g_iload_n (pc := 382) G dL_law_382 3 rfl ?_
                                  refine g_iconst (pc := 383) G (v := 2) dL_law_383 (by decide) ?_
                                  refine g_iadd (pc := 384) G dL_law_384 ?_
                                  obtain ⟨b223, h⟩ := gd_e h
                                  refine g_sld (pc := 385) G hX hbl hbs b223 dL_law_385 ?_
                                  obtain ⟨r226, e225, h⟩ := bd_e h
                                  have k224 : kd T19 a12 = 9 := by
                                    obtain ⟨ee, k0⟩ := ck_e e225
                                    cases ee
                                    exact k0
                                  obtain ⟨r229, V228, e227, h⟩ := bd2_e h
                                  refine g_callV (pc := 386) (As := [.int (xs (v24 + 1).toNatClampNeg), .int (xs (v24 + 2).toNatClampNeg)]) (rest := [.int r221]) (st2 := [.int r229, .int r221]) G (c_Mo_least l D ca b k224 e227) (mb_Mo_least G.2.2.2.2.1) (q1016 G.2.2.2.2.1) (q1017 G.2.2.2.2.1) (q1015 G.2.2.2.2.1) ci_9 k224 rfl rfl (Nat.le_of_ble_eq_true rfl) ⟨Nat.le_trans (Nat.le_of_ble_eq_true rfl) hR.1, Nat.le_trans (Nat.le_of_ble_eq_true rfl) hR.2⟩ ⟨Nat.le_trans (Nat.le_of_ble_eq_true rfl) hC.1, Nat.le_trans (Nat.le_of_ble_eq_true rfl) hC.2⟩ rfl rfl dL_law_386 ?_
                                  refine g_icmp_eq (pc := 389) G 580 dL_law_389 (by decide) (fun c230 => ?_) (fun c230 => ?_)
                                  · rw [if_pos c230] at h
                                    refine g_iinc (v := v24 + 3) (L' := [(3, .int (v24 + 3)), (0, .ref bs), (1, rv b (some a1)), (2, rv b (some a12))]) (pc := 580) G dL_law_580 3 rfl rfl (by decide) rfl ?_
                                    refine g_goto (pc := 583) G 18 dL_law_583 (by decide) ?_
                                    exact g_sub [1, 2, 3, 0] rfl (ih26 _ _ h)
                                  · rw [if_neg c230] at h
                                    refine g_iconst (pc := 392) G (v := 0) dL_law_392 (by decide) ?_
                                    exact absurd h (by decide)
                                exact g_tabI (pc := 32) G 361 dL_law_32 (by rw [c213] <;> decide) (by rw [c213] <;> decide) (by rw [c213] <;> rfl) (by decide) K231
                              · rw [if_neg c213] at h
                                by_cases c232 : ((xs v24.toNatClampNeg) &&& 31) = 12
                                · rw [if_pos c232] at h
                                  have K248 : WG p l e room_1 s m #[Value.ref bs] below meth c D ca b 4 (lw_Z below #[Value.ref bs] s) 182 15270 T19 V25 394 [(0, .ref bs), (1, rv b (some a1)), (2, rv b (some a12)), (3, .int v24)] [] := by
                                    refine g_aload_n (pc := 394) G dL_law_394 1 rfl ?_
                                    refine g_aloadX (pc := 395) G dL_law_395 0 rfl ?_
                                    refine g_iload_n (pc := 396) G dL_law_396 3 rfl ?_
                                    refine g_iconst (pc := 397) G (v := 1) dL_law_397 (by decide) ?_
                                    refine g_iadd (pc := 398) G dL_law_398 ?_
                                    obtain ⟨b233, h⟩ := gd_e h
                                    refine g_sld (pc := 399) G hX hbl hbs b233 dL_law_399 ?_
                                    obtain ⟨r236, e235, h⟩ := bd_e h
                                    have k234 : kd T19 a1 = 8 := by
                                      obtain ⟨ee, k0⟩ := ck_e e235
                                      cases ee
                                      exact k0
                                    obtain ⟨r239, V238, e237, h⟩ := bd2_e h
                                    refine g_callV (pc := 400) (As := [.int (xs (v24 + 1).toNatClampNeg)]) (rest := []) (st2 := [.int r239]) G (c_RS_mark l D ca b k234 e237) (mb_RS_mark G.2.2.2.2.1) (q658 G.2.2.2.2.1) (q659 G.2.2.2.2.1) (q657 G.2.2.2.2.1) ci_8 k234 rfl rfl (Nat.le_of_ble_eq_true rfl) ⟨Nat.le_trans (Nat.le_of_ble_eq_true rfl) hR.1, Nat.le_trans (Nat.le_of_ble_eq_true rfl) hR.2⟩ ⟨Nat.le_trans (Nat.le_of_ble_eq_true rfl) hC.1, Nat.le_trans (Nat.le_of_ble_eq_true rfl) hC.2⟩ rfl rfl dL_law_400 ?_
                                    refine g_aload_n (pc := 403) G dL_law_403 2 rfl ?_
                                    refine g_aloadX (pc := 404) G dL_law_404 0 rfl ?_
                                    refine g_iload_n (pc := 405) G dL_law_405 3 rfl ?_
                                    refine g_iconst (pc := 406) G (v := 1) dL_law_406 (by decide) ?_
                                    refine g_iadd (pc := 407) G dL_law_407 ?_
                                    obtain ⟨b240, h⟩ := gd_e h
                                    refine g_sld (pc := 408) G hX hbl hbs b240 dL_law_408 ?_
                                    obtain ⟨r243, e242, h⟩ := bd_e h
                                    have k241 : kd T19 a12 = 9 := by
                                      obtain ⟨ee, k0⟩ := ck_e e242
                                      cases ee
                                      exact k0
                                    obtain ⟨r246, V245, e244, h⟩ := bd2_e h
                                    refine g_callV (pc := 409) (As := [.int (xs (v24 + 1).toNatClampNeg)]) (rest := [.int r239]) (st2 := [.int r246, .int r239]) G (c_Mo_mark l D ca b k241 e244) (mb_Mo_mark G.2.2.2.2.1) (q1020 G.2.2.2.2.1) (q1021 G.2.2.2.2.1) (q1019 G.2.2.2.2.1) ci_9 k241 rfl rfl (Nat.le_of_ble_eq_true rfl) ⟨Nat.le_trans (Nat.le_of_ble_eq_true rfl) hR.1, Nat.le_trans (Nat.le_of_ble_eq_true rfl) hR.2⟩ ⟨Nat.le_trans (Nat.le_of_ble_eq_true rfl) hC.1, Nat.le_trans (Nat.le_of_ble_eq_true rfl) hC.2⟩ rfl rfl dL_law_409 ?_
                                    refine g_icmp_eq (pc := 412) G 580 dL_law_412 (by decide) (fun c247 => ?_) (fun c247 => ?_)
                                    · rw [if_pos c247] at h
                                      refine g_iinc (v := v24 + 3) (L' := [(3, .int (v24 + 3)), (0, .ref bs), (1, rv b (some a1)), (2, rv b (some a12))]) (pc := 580) G dL_law_580 3 rfl rfl (by decide) rfl ?_
                                      refine g_goto (pc := 583) G 18 dL_law_583 (by decide) ?_
                                      exact g_sub [1, 2, 3, 0] rfl (ih26 _ _ h)
                                    · rw [if_neg c247] at h
                                      refine g_iconst (pc := 415) G (v := 0) dL_law_415 (by decide) ?_
                                      exact absurd h (by decide)
                                  exact g_tabI (pc := 32) G 394 dL_law_32 (by rw [c232] <;> decide) (by rw [c232] <;> decide) (by rw [c232] <;> rfl) (by decide) K248
                                · rw [if_neg c232] at h
                                  by_cases c249 : ((xs v24.toNatClampNeg) &&& 31) = 13
                                  · rw [if_pos c249] at h
                                    have K265 : WG p l e room_1 s m #[Value.ref bs] below meth c D ca b 4 (lw_Z below #[Value.ref bs] s) 182 15270 T19 V25 417 [(0, .ref bs), (1, rv b (some a1)), (2, rv b (some a12)), (3, .int v24)] [] := by
                                      refine g_aload_n (pc := 417) G dL_law_417 1 rfl ?_
                                      refine g_aloadX (pc := 418) G dL_law_418 0 rfl ?_
                                      refine g_iload_n (pc := 419) G dL_law_419 3 rfl ?_
                                      refine g_iconst (pc := 420) G (v := 1) dL_law_420 (by decide) ?_
                                      refine g_iadd (pc := 421) G dL_law_421 ?_
                                      obtain ⟨b250, h⟩ := gd_e h
                                      refine g_sld (pc := 422) G hX hbl hbs b250 dL_law_422 ?_
                                      obtain ⟨r253, e252, h⟩ := bd_e h
                                      have k251 : kd T19 a1 = 8 := by
                                        obtain ⟨ee, k0⟩ := ck_e e252
                                        cases ee
                                        exact k0
                                      obtain ⟨r256, V255, e254, h⟩ := bd2_e h
                                      refine g_callV (pc := 423) (As := [.int (xs (v24 + 1).toNatClampNeg)]) (rest := []) (st2 := [.long r256]) G (c_RS_writings l D ca b k251 e254) (mb_RS_writings G.2.2.2.2.1) (q662 G.2.2.2.2.1) (q663 G.2.2.2.2.1) (q661 G.2.2.2.2.1) ci_8 k251 rfl rfl (Nat.le_of_ble_eq_true rfl) ⟨Nat.le_trans (Nat.le_of_ble_eq_true rfl) hR.1, Nat.le_trans (Nat.le_of_ble_eq_true rfl) hR.2⟩ ⟨Nat.le_trans (Nat.le_of_ble_eq_true rfl) hC.1, Nat.le_trans (Nat.le_of_ble_eq_true rfl) hC.2⟩ rfl rfl dL_law_423 ?_
                                      refine g_aload_n (pc := 426) G dL_law_426 2 rfl ?_
                                      refine g_aloadX (pc := 427) G dL_law_427 0 rfl ?_
                                      refine g_iload_n (pc := 428) G dL_law_428 3 rfl ?_
                                      refine g_iconst (pc := 429) G (v := 1) dL_law_429 (by decide) ?_
                                      refine g_iadd (pc := 430) G dL_law_430 ?_
                                      obtain ⟨b257, h⟩ := gd_e h
                                      refine g_sld (pc := 431) G hX hbl hbs b257 dL_law_431 ?_
                                      obtain ⟨r260, e259, h⟩ := bd_e h
                                      have k258 : kd T19 a12 = 9 := by
                                        obtain ⟨ee, k0⟩ := ck_e e259
                                        cases ee
                                        exact k0
                                      obtain ⟨r263, V262, e261, h⟩ := bd2_e h
                                      refine g_callV (pc := 432) (As := [.int (xs (v24 + 1).toNatClampNeg)]) (rest := [.long r256]) (st2 := [.long r263, .long r256]) G (c_Mo_writings l D ca b k258 e261) (mb_Mo_writings G.2.2.2.2.1) (q1024 G.2.2.2.2.1) (q1025 G.2.2.2.2.1) (q1023 G.2.2.2.2.1) ci_9 k258 rfl rfl (Nat.le_of_ble_eq_true rfl) ⟨Nat.le_trans (Nat.le_of_ble_eq_true rfl) hR.1, Nat.le_trans (Nat.le_of_ble_eq_true rfl) hR.2⟩ ⟨Nat.le_trans (Nat.le_of_ble_eq_true rfl) hC.1, Nat.le_trans (Nat.le_of_ble_eq_true rfl) hC.2⟩ rfl rfl dL_law_432 ?_
                                      refine g_lcmp (pc := 435) G dL_law_435 ?_
                                      refine g_if_eq (pc := 436) G 580 dL_law_436 (by decide) (fun c264 => ?_) (fun c264 => ?_)
                                      · rw [if_pos c264] at h
                                        refine g_iinc (v := v24 + 3) (L' := [(3, .int (v24 + 3)), (0, .ref bs), (1, rv b (some a1)), (2, rv b (some a12))]) (pc := 580) G dL_law_580 3 rfl rfl (by decide) rfl ?_
                                        refine g_goto (pc := 583) G 18 dL_law_583 (by decide) ?_
                                        exact g_sub [1, 2, 3, 0] rfl (ih26 _ _ h)
                                      · rw [if_neg c264] at h
                                        refine g_iconst (pc := 439) G (v := 0) dL_law_439 (by decide) ?_
                                        exact absurd h (by decide)
                                    exact g_tabI (pc := 32) G 417 dL_law_32 (by rw [c249] <;> decide) (by rw [c249] <;> decide) (by rw [c249] <;> rfl) (by decide) K265
                                  · rw [if_neg c249] at h
                                    by_cases c266 : ((xs v24.toNatClampNeg) &&& 31) = 14
                                    · rw [if_pos c266] at h
                                      have K280 : WG p l e room_1 s m #[Value.ref bs] below meth c D ca b 4 (lw_Z below #[Value.ref bs] s) 182 15270 T19 V25 441 [(0, .ref bs), (1, rv b (some a1)), (2, rv b (some a12)), (3, .int v24)] [] := by
                                        refine g_aload_n (pc := 441) G dL_law_441 1 rfl ?_
                                        refine g_aloadX (pc := 442) G dL_law_442 0 rfl ?_
                                        refine g_iload_n (pc := 443) G dL_law_443 3 rfl ?_
                                        refine g_iconst (pc := 444) G (v := 1) dL_law_444 (by decide) ?_
                                        refine g_iadd (pc := 445) G dL_law_445 ?_
                                        obtain ⟨b267, h⟩ := gd_e h
                                        refine g_sld (pc := 446) G hX hbl hbs b267 dL_law_446 ?_
                                        obtain ⟨r270, e269, h⟩ := bd_e h
                                        have k268 : kd T19 a1 = 8 := by
                                          obtain ⟨ee, k0⟩ := ck_e e269
                                          cases ee
                                          exact k0
                                        obtain ⟨r272, e271, h⟩ := bd_e h
                                        refine g_callV (pc := 447) (As := [.int (xs (v24 + 1).toNatClampNeg)]) (rest := []) (st2 := [.int r272]) G (c_RS_carved l D ca b k268 e271) (mb_RS_carved G.2.2.2.2.1) (q678 G.2.2.2.2.1) (q679 G.2.2.2.2.1) (q677 G.2.2.2.2.1) ci_8 k268 rfl rfl (Nat.le_of_ble_eq_true rfl) ⟨Nat.le_trans (Nat.le_of_ble_eq_true rfl) hR.1, Nat.le_trans (Nat.le_of_ble_eq_true rfl) hR.2⟩ ⟨Nat.le_trans (Nat.le_of_ble_eq_true rfl) hC.1, Nat.le_trans (Nat.le_of_ble_eq_true rfl) hC.2⟩ rfl rfl dL_law_447 ?_
                                        refine g_aload_n (pc := 450) G dL_law_450 2 rfl ?_
                                        refine g_aloadX (pc := 451) G dL_law_451 0 rfl ?_
                                        refine g_iload_n (pc := 452) G dL_law_452 3 rfl ?_
                                        refine g_iconst (pc := 453) G (v := 1) dL_law_453 (by decide) ?_
                                        refine g_iadd (pc := 454) G dL_law_454 ?_
                                        obtain ⟨b273, h⟩ := gd_e h
                                        refine g_sld (pc := 455) G hX hbl hbs b273 dL_law_455 ?_
                                        obtain ⟨r276, e275, h⟩ := bd_e h
                                        have k274 : kd T19 a12 = 9 := by
                                          obtain ⟨ee, k0⟩ := ck_e e275
                                          cases ee
                                          exact k0
                                        obtain ⟨r278, e277, h⟩ := bd_e h
                                        refine g_callV (pc := 456) (As := [.int (xs (v24 + 1).toNatClampNeg)]) (rest := [.int r272]) (st2 := [.int r278, .int r272]) G (c_Mo_carved l D ca b k274 e277) (mb_Mo_carved G.2.2.2.2.1) (q1029 G.2.2.2.2.1) (q1030 G.2.2.2.2.1) (q1028 G.2.2.2.2.1) ci_9 k274 rfl rfl (Nat.le_of_ble_eq_true rfl) ⟨Nat.le_trans (Nat.le_of_ble_eq_true rfl) hR.1, Nat.le_trans (Nat.le_of_ble_eq_true rfl) hR.2⟩ ⟨Nat.le_trans (Nat.le_of_ble_eq_true rfl) hC.1, Nat.le_trans (Nat.le_of_ble_eq_true rfl) hC.2⟩ rfl rfl dL_law_456 ?_
                                        refine g_icmp_eq (pc := 459) G 580 dL_law_459 (by decide) (fun c279 => ?_) (fun c279 => ?_)
                                        · rw [if_pos c279] at h
                                          refine g_iinc (v := v24 + 3) (L' := [(3, .int (v24 + 3)), (0, .ref bs), (1, rv b (some a1)), (2, rv b (some a12))]) (pc := 580) G dL_law_580 3 rfl rfl (by decide) rfl ?_
                                          refine g_goto (pc := 583) G 18 dL_law_583 (by decide) ?_
                                          exact g_sub [1, 2, 3, 0] rfl (ih26 _ _ h)
                                        · rw [if_neg c279] at h
                                          refine g_iconst (pc := 462) G (v := 0) dL_law_462 (by decide) ?_
                                          exact absurd h (by decide)
                                      exact g_tabI (pc := 32) G 441 dL_law_32 (by rw [c266] <;> decide) (by rw [c266] <;> decide) (by rw [c266] <;> rfl) (by decide) K280
                                    · rw [if_neg c266] at h
                                      by_cases c281 : ((xs v24.toNatClampNeg) &&& 31) = 15
                                      · rw [if_pos c281] at h
                                        have K298 : WG p l e room_1 s m #[Value.ref bs] below meth c D ca b 4 (lw_Z below #[Value.ref bs] s) 182 15270 T19 V25 464 [(0, .ref bs), (1, rv b (some a1)), (2, rv b (some a12)), (3, .int v24)] [] := by
                                          refine g_aload_n (pc := 464) G dL_law_464 1 rfl ?_
                                          refine g_aloadX (pc := 465) G dL_law_465 0 rfl ?_
                                          refine g_iload_n (pc := 466) G dL_law_466 3 rfl ?_
                                          refine g_iconst (pc := 467) G (v := 1) dL_law_467 (by decide) ?_
                                          refine g_iadd (pc := 468) G dL_law_468 ?_
                                          obtain ⟨b282, h⟩ := gd_e h
                                          refine g_sld (pc := 469) G hX hbl hbs b282 dL_law_469 ?_
                                          refine g_aloadX (pc := 470) G dL_law_470 0 rfl ?_
                                          refine g_iload_n (pc := 471) G dL_law_471 3 rfl ?_
                                          refine g_iconst (pc := 472) G (v := 2) dL_law_472 (by decide) ?_
                                          refine g_iadd (pc := 473) G dL_law_473 ?_
                                          obtain ⟨b283, h⟩ := gd_e h
                                          refine g_sld (pc := 474) G hX hbl hbs b283 dL_law_474 ?_
                                          obtain ⟨r286, e285, h⟩ := bd_e h
                                          have k284 : kd T19 a1 = 8 := by
                                            obtain ⟨ee, k0⟩ := ck_e e285
                                            cases ee
                                            exact k0
                                          obtain ⟨r289, V288, e287, h⟩ := bd2_e h
                                          refine g_callV (pc := 475) (As := [.int (xs (v24 + 1).toNatClampNeg), .int (xs (v24 + 2).toNatClampNeg)]) (rest := []) (st2 := [.int r289]) G (c_RS_read l D ca b k284 e287) (mb_RS_read G.2.2.2.2.1) (q682 G.2.2.2.2.1) (q683 G.2.2.2.2.1) (q681 G.2.2.2.2.1) ci_8 k284 rfl rfl (Nat.le_of_ble_eq_true rfl) ⟨Nat.le_trans (Nat.le_of_ble_eq_true rfl) hR.1, Nat.le_trans (Nat.le_of_ble_eq_true rfl) hR.2⟩ ⟨Nat.le_trans (Nat.le_of_ble_eq_true rfl) hC.1, Nat.le_trans (Nat.le_of_ble_eq_true rfl) hC.2⟩ rfl rfl dL_law_475 ?_
                                          refine g_aload_n (pc := 478) G dL_law_478 2 rfl ?_
                                          refine g_aloadX (pc := 479) G dL_law_479 0 rfl ?_
                                          refine g_iload_n (pc := 480) G dL_law_480 3 rfl ?_
                                          refine g_iconst (pc := 481) G (v := 1) dL_law_481 (by decide) ?_
                                          refine g_iadd (pc := 482) G dL_law_482 ?_
                                          obtain ⟨b290, h⟩ := gd_e h
                                          refine g_sld (pc := 483) G hX hbl hbs b290 dL_law_483 ?_
                                          refine g_aloadX (pc := 484) G dL_law_484 0 rfl ?_
                                          refine g_iload_n (pc := 485) G dL_law_485 3 rfl ?_
                                          refine g_iconst (pc := 486) G (v := 2) dL_law_486 (by decide) ?_
                                          refine g_iadd (pc := 487) G dL_law_487 ?_
                                          obtain ⟨b291, h⟩ := gd_e h
                                          refine g_sld (pc := 488) G hX hbl hbs b291 dL_law_488 ?_
                                          obtain ⟨r294, e293, h⟩ := bd_e h
                                          have k292 : kd T19 a12 = 9 := by
                                            obtain ⟨ee, k0⟩ := ck_e e293
                                            cases ee
                                            exact k0
                                          obtain ⟨r296, e295, h⟩ := bd_e h
                                          refine g_callV (pc := 489) (As := [.int (xs (v24 + 1).toNatClampNeg), .int (xs (v24 + 2).toNatClampNeg)]) (rest := [.int r289]) (st2 := [.int r296, .int r289]) G (c_Mo_read l D ca b k292 e295) (mb_Mo_read G.2.2.2.2.1) (q1033 G.2.2.2.2.1) (q1034 G.2.2.2.2.1) (q1032 G.2.2.2.2.1) ci_9 k292 rfl rfl (Nat.le_of_ble_eq_true rfl) ⟨Nat.le_trans (Nat.le_of_ble_eq_true rfl) hR.1, Nat.le_trans (Nat.le_of_ble_eq_true rfl) hR.2⟩ ⟨Nat.le_trans (Nat.le_of_ble_eq_true rfl) hC.1, Nat.le_trans (Nat.le_of_ble_eq_true rfl) hC.2⟩ rfl rfl dL_law_489 ?_
                                          refine g_icmp_eq (pc := 492) G 580 dL_law_492 (by decide) (fun c297 => ?_) (fun c297 => ?_)
                                          · rw [if_pos c297] at h
                                            refine g_iinc (v := v24 + 3) (L' := [(3, .int (v24 + 3)), (0, .ref bs), (1, rv b (some a1)), (2, rv b (some a12))]) (pc := 580) G dL_law_580 3 rfl rfl (by decide) rfl ?_
                                            refine g_goto (pc := 583) G 18 dL_law_583 (by decide) ?_
                                            exact g_sub [1, 2, 3, 0] rfl (ih26 _ _ h)
                                          · rw [if_neg c297] at h
                                            refine g_iconst (pc := 495) G (v := 0) dL_law_495 (by decide) ?_
                                            exact absurd h (by decide)
                                        exact g_tabI (pc := 32) G 464 dL_law_32 (by rw [c281] <;> decide) (by rw [c281] <;> decide) (by rw [c281] <;> rfl) (by decide) K298
                                      · rw [if_neg c281] at h
                                        by_cases c299 : ((xs v24.toNatClampNeg) &&& 31) = 16
                                        · rw [if_pos c299] at h
                                          have K313 : WG p l e room_1 s m #[Value.ref bs] below meth c D ca b 4 (lw_Z below #[Value.ref bs] s) 182 15270 T19 V25 497 [(0, .ref bs), (1, rv b (some a1)), (2, rv b (some a12)), (3, .int v24)] [] := by
                                            refine g_aload_n (pc := 497) G dL_law_497 1 rfl ?_
                                            obtain ⟨r302, e301, h⟩ := bd_e h
                                            have k300 : kd T19 a1 = 8 := by
                                              obtain ⟨ee, k0⟩ := ck_e e301
                                              cases ee
                                              exact k0
                                            obtain ⟨r305, V304, e303, h⟩ := bd2_e h
                                            refine g_callV (pc := 498) (As := []) (rest := []) (st2 := [.long r305]) G (c_RS_readings l D ca b k300 e303) (mb_RS_readings G.2.2.2.2.1) (q686 G.2.2.2.2.1) (q687 G.2.2.2.2.1) (q685 G.2.2.2.2.1) ci_8 k300 rfl rfl (Nat.le_of_ble_eq_true rfl) ⟨Nat.le_trans (Nat.le_of_ble_eq_true rfl) hR.1, Nat.le_trans (Nat.le_of_ble_eq_true rfl) hR.2⟩ ⟨Nat.le_trans (Nat.le_of_ble_eq_true rfl) hC.1, Nat.le_trans (Nat.le_of_ble_eq_true rfl) hC.2⟩ rfl rfl dL_law_498 ?_
                                            refine g_aload_n (pc := 501) G dL_law_501 2 rfl ?_
                                            obtain ⟨r308, e307, h⟩ := bd_e h
                                            have k306 : kd T19 a12 = 9 := by
                                              obtain ⟨ee, k0⟩ := ck_e e307
                                              cases ee
                                              exact k0
                                            obtain ⟨r311, V310, e309, h⟩ := bd2_e h
                                            refine g_callV (pc := 502) (As := []) (rest := [.long r305]) (st2 := [.long r311, .long r305]) G (c_Mo_readings l D ca b k306 e309) (mb_Mo_readings G.2.2.2.2.1) (q1038 G.2.2.2.2.1) (q1039 G.2.2.2.2.1) (q1037 G.2.2.2.2.1) ci_9 k306 rfl rfl (Nat.le_of_ble_eq_true rfl) ⟨Nat.le_trans (Nat.le_of_ble_eq_true rfl) hR.1, Nat.le_trans (Nat.le_of_ble_eq_true rfl) hR.2⟩ ⟨Nat.le_trans (Nat.le_of_ble_eq_true rfl) hC.1, Nat.le_trans (Nat.le_of_ble_eq_true rfl) hC.2⟩ rfl rfl dL_law_502 ?_
                                            refine g_lcmp (pc := 505) G dL_law_505 ?_
                                            refine g_if_eq (pc := 506) G 580 dL_law_506 (by decide) (fun c312 => ?_) (fun c312 => ?_)
                                            · rw [if_pos c312] at h
                                              refine g_iinc (v := v24 + 3) (L' := [(3, .int (v24 + 3)), (0, .ref bs), (1, rv b (some a1)), (2, rv b (some a12))]) (pc := 580) G dL_law_580 3 rfl rfl (by decide) rfl ?_
                                              refine g_goto (pc := 583) G 18 dL_law_583 (by decide) ?_
                                              exact g_sub [1, 2, 3, 0] rfl (ih26 _ _ h)
                                            · rw [if_neg c312] at h
                                              refine g_iconst (pc := 509) G (v := 0) dL_law_509 (by decide) ?_
                                              exact absurd h (by decide)
                                          exact g_tabI (pc := 32) G 497 dL_law_32 (by rw [c299] <;> decide) (by rw [c299] <;> decide) (by rw [c299] <;> rfl) (by decide) K313
                                        · rw [if_neg c299] at h
                                          by_cases c314 : ((xs v24.toNatClampNeg) &&& 31) = 17
                                          · rw [if_pos c314] at h
                                            have K330 : WG p l e room_1 s m #[Value.ref bs] below meth c D ca b 4 (lw_Z below #[Value.ref bs] s) 182 15270 T19 V25 511 [(0, .ref bs), (1, rv b (some a1)), (2, rv b (some a12)), (3, .int v24)] [] := by
                                              refine g_aload_n (pc := 511) G dL_law_511 1 rfl ?_
                                              refine g_aloadX (pc := 512) G dL_law_512 0 rfl ?_
                                              refine g_iload_n (pc := 513) G dL_law_513 3 rfl ?_
                                              refine g_iconst (pc := 514) G (v := 1) dL_law_514 (by decide) ?_
                                              refine g_iadd (pc := 515) G dL_law_515 ?_
                                              obtain ⟨b315, h⟩ := gd_e h
                                              refine g_sld (pc := 516) G hX hbl hbs b315 dL_law_516 ?_
                                              obtain ⟨r318, e317, h⟩ := bd_e h
                                              have k316 : kd T19 a1 = 8 := by
                                                obtain ⟨ee, k0⟩ := ck_e e317
                                                cases ee
                                                exact k0
                                              obtain ⟨r321, V320, e319, h⟩ := bd2_e h
                                              refine g_callV (pc := 517) (As := [.int (xs (v24 + 1).toNatClampNeg)]) (rest := []) (st2 := [.int r321]) G (c_RS_reading l D ca b k316 e319) (mb_RS_reading G.2.2.2.2.1) (q717 G.2.2.2.2.1) (q718 G.2.2.2.2.1) (q716 G.2.2.2.2.1) ci_8 k316 rfl rfl (Nat.le_of_ble_eq_true rfl) ⟨Nat.le_trans (Nat.le_of_ble_eq_true rfl) hR.1, Nat.le_trans (Nat.le_of_ble_eq_true rfl) hR.2⟩ ⟨Nat.le_trans (Nat.le_of_ble_eq_true rfl) hC.1, Nat.le_trans (Nat.le_of_ble_eq_true rfl) hC.2⟩ rfl rfl dL_law_517 ?_
                                              refine g_aload_n (pc := 520) G dL_law_520 2 rfl ?_
                                              refine g_aloadX (pc := 521) G dL_law_521 0 rfl ?_
                                              refine g_iload_n (pc := 522) G dL_law_522 3 rfl ?_
                                              refine g_iconst (pc := 523) G (v := 1) dL_law_523 (by decide) ?_
                                              refine g_iadd (pc := 524) G dL_law_524 ?_
                                              obtain ⟨b322, h⟩ := gd_e h
                                              refine g_sld (pc := 525) G hX hbl hbs b322 dL_law_525 ?_
                                              obtain ⟨r325, e324, h⟩ := bd_e h
                                              have k323 : kd T19 a12 = 9 := by
                                                obtain ⟨ee, k0⟩ := ck_e e324
                                                cases ee
                                                exact k0
                                              obtain ⟨r328, V327, e326, h⟩ := bd2_e h
                                              refine g_callV (pc := 526) (As := [.int (xs (v24 + 1).toNatClampNeg)]) (rest := [.int r321]) (st2 := [.int r328, .int r321]) G (c_Mo_reading l D ca b k323 e326) (mb_Mo_reading G.2.2.2.2.1) (q1046 G.2.2.2.2.1) (q1047 G.2.2.2.2.1) (q1045 G.2.2.2.2.1) ci_9 k323 rfl rfl (Nat.le_of_ble_eq_true rfl) ⟨Nat.le_trans (Nat.le_of_ble_eq_true rfl) hR.1, Nat.le_trans (Nat.le_of_ble_eq_true rfl) hR.2⟩ ⟨Nat.le_trans (Nat.le_of_ble_eq_true rfl) hC.1, Nat.le_trans (Nat.le_of_ble_eq_true rfl) hC.2⟩ rfl rfl dL_law_526 ?_
                                              refine g_icmp_eq (pc := 529) G 580 dL_law_529 (by decide) (fun c329 => ?_) (fun c329 => ?_)
                                              · rw [if_pos c329] at h
                                                refine g_iinc (v := v24 + 3) (L' := [(3, .int (v24 + 3)), (0, .ref bs), (1, rv b (some a1)), (2, rv b (some a12))]) (pc := 580) G dL_law_580 3 rfl rfl (by decide) rfl ?_
                                                refine g_goto (pc := 583) G 18 dL_law_583 (by decide) ?_
                                                exact g_sub [1, 2, 3, 0] rfl (ih26 _ _ h)
                                              · rw [if_neg c329] at h
                                                refine g_iconst (pc := 532) G (v := 0) dL_law_532 (by decide) ?_
                                                exact absurd h (by decide)
                                            exact g_tabI (pc := 32) G 511 dL_law_32 (by rw [c314] <;> decide) (by rw [c314] <;> decide) (by rw [c314] <;> rfl) (by decide) K330
                                          · rw [if_neg c314] at h
                                            by_cases c331 : ((xs v24.toNatClampNeg) &&& 31) = 18
                                            · rw [if_pos c331] at h
                                              have K347 : WG p l e room_1 s m #[Value.ref bs] below meth c D ca b 4 (lw_Z below #[Value.ref bs] s) 182 15270 T19 V25 534 [(0, .ref bs), (1, rv b (some a1)), (2, rv b (some a12)), (3, .int v24)] [] := by
                                                refine g_aload_n (pc := 534) G dL_law_534 1 rfl ?_
                                                refine g_aloadX (pc := 535) G dL_law_535 0 rfl ?_
                                                refine g_iload_n (pc := 536) G dL_law_536 3 rfl ?_
                                                refine g_iconst (pc := 537) G (v := 1) dL_law_537 (by decide) ?_
                                                refine g_iadd (pc := 538) G dL_law_538 ?_
                                                obtain ⟨b332, h⟩ := gd_e h
                                                refine g_sld (pc := 539) G hX hbl hbs b332 dL_law_539 ?_
                                                obtain ⟨r335, e334, h⟩ := bd_e h
                                                have k333 : kd T19 a1 = 8 := by
                                                  obtain ⟨ee, k0⟩ := ck_e e334
                                                  cases ee
                                                  exact k0
                                                obtain ⟨r338, V337, e336, h⟩ := bd2_e h
                                                refine g_callV (pc := 540) (As := [.int (xs (v24 + 1).toNatClampNeg)]) (rest := []) (st2 := [.int r338]) G (c_RS_cut l D ca b k333 e336) (mb_RS_cut G.2.2.2.2.1) (q733 G.2.2.2.2.1) (q734 G.2.2.2.2.1) (q732 G.2.2.2.2.1) ci_8 k333 rfl rfl (Nat.le_of_ble_eq_true rfl) ⟨Nat.le_trans (Nat.le_of_ble_eq_true rfl) hR.1, Nat.le_trans (Nat.le_of_ble_eq_true rfl) hR.2⟩ ⟨Nat.le_trans (Nat.le_of_ble_eq_true rfl) hC.1, Nat.le_trans (Nat.le_of_ble_eq_true rfl) hC.2⟩ rfl rfl dL_law_540 ?_
                                                refine g_aload_n (pc := 543) G dL_law_543 2 rfl ?_
                                                refine g_aloadX (pc := 544) G dL_law_544 0 rfl ?_
                                                refine g_iload_n (pc := 545) G dL_law_545 3 rfl ?_
                                                refine g_iconst (pc := 546) G (v := 1) dL_law_546 (by decide) ?_
                                                refine g_iadd (pc := 547) G dL_law_547 ?_
                                                obtain ⟨b339, h⟩ := gd_e h
                                                refine g_sld (pc := 548) G hX hbl hbs b339 dL_law_548 ?_
                                                obtain ⟨r342, e341, h⟩ := bd_e h
                                                have k340 : kd T19 a12 = 9 := by
                                                  obtain ⟨ee, k0⟩ := ck_e e341
                                                  cases ee
                                                  exact k0
                                                obtain ⟨r345, V344, e343, h⟩ := bd2_e h
                                                refine g_callV (pc := 549) (As := [.int (xs (v24 + 1).toNatClampNeg)]) (rest := [.int r338]) (st2 := [.int r345, .int r338]) G (c_Mo_cut l D ca b k340 e343) (mb_Mo_cut G.2.2.2.2.1) (q1058 G.2.2.2.2.1) (q1059 G.2.2.2.2.1) (q1057 G.2.2.2.2.1) ci_9 k340 rfl rfl (Nat.le_of_ble_eq_true rfl) ⟨Nat.le_trans (Nat.le_of_ble_eq_true rfl) hR.1, Nat.le_trans (Nat.le_of_ble_eq_true rfl) hR.2⟩ ⟨Nat.le_trans (Nat.le_of_ble_eq_true rfl) hC.1, Nat.le_trans (Nat.le_of_ble_eq_true rfl) hC.2⟩ rfl rfl dL_law_549 ?_
                                                refine g_icmp_eq (pc := 552) G 580 dL_law_552 (by decide) (fun c346 => ?_) (fun c346 => ?_)
                                                · rw [if_pos c346] at h
                                                  refine g_iinc (v := v24 + 3) (L' := [(3, .int (v24 + 3)), (0, .ref bs), (1, rv b (some a1)), (2, rv b (some a12))]) (pc := 580) G dL_law_580 3 rfl rfl (by decide) rfl ?_
                                                  refine g_goto (pc := 583) G 18 dL_law_583 (by decide) ?_
                                                  exact g_sub [1, 2, 3, 0] rfl (ih26 _ _ h)
                                                · rw [if_neg c346] at h
                                                  refine g_iconst (pc := 555) G (v := 0) dL_law_555 (by decide) ?_
                                                  exact absurd h (by decide)
                                              exact g_tabI (pc := 32) G 534 dL_law_32 (by rw [c331] <;> decide) (by rw [c331] <;> decide) (by rw [c331] <;> rfl) (by decide) K347
                                            · rw [if_neg c331] at h
                                              by_cases c348 : ((xs v24.toNatClampNeg) &&& 31) = 19
                                              · rw [if_pos c348] at h
                                                have K364 : WG p l e room_1 s m #[Value.ref bs] below meth c D ca b 4 (lw_Z below #[Value.ref bs] s) 182 15270 T19 V25 557 [(0, .ref bs), (1, rv b (some a1)), (2, rv b (some a12)), (3, .int v24)] [] := by
                                                  refine g_aload_n (pc := 557) G dL_law_557 1 rfl ?_
                                                  refine g_aloadX (pc := 558) G dL_law_558 0 rfl ?_
                                                  refine g_iload_n (pc := 559) G dL_law_559 3 rfl ?_
                                                  refine g_iconst (pc := 560) G (v := 1) dL_law_560 (by decide) ?_
                                                  refine g_iadd (pc := 561) G dL_law_561 ?_
                                                  obtain ⟨b349, h⟩ := gd_e h
                                                  refine g_sld (pc := 562) G hX hbl hbs b349 dL_law_562 ?_
                                                  obtain ⟨r352, e351, h⟩ := bd_e h
                                                  have k350 : kd T19 a1 = 8 := by
                                                    obtain ⟨ee, k0⟩ := ck_e e351
                                                    cases ee
                                                    exact k0
                                                  obtain ⟨r355, V354, e353, h⟩ := bd2_e h
                                                  refine g_callV (pc := 563) (As := [.int (xs (v24 + 1).toNatClampNeg)]) (rest := []) (st2 := [.int r355]) G (c_RS_count l D ca b k350 e353) (mb_RS_count G.2.2.2.2.1) (q741 G.2.2.2.2.1) (q742 G.2.2.2.2.1) (q740 G.2.2.2.2.1) ci_8 k350 rfl rfl (Nat.le_of_ble_eq_true rfl) ⟨Nat.le_trans (Nat.le_of_ble_eq_true rfl) hR.1, Nat.le_trans (Nat.le_of_ble_eq_true rfl) hR.2⟩ ⟨Nat.le_trans (Nat.le_of_ble_eq_true rfl) hC.1, Nat.le_trans (Nat.le_of_ble_eq_true rfl) hC.2⟩ rfl rfl dL_law_563 ?_
                                                  refine g_aload_n (pc := 566) G dL_law_566 2 rfl ?_
                                                  refine g_aloadX (pc := 567) G dL_law_567 0 rfl ?_
                                                  refine g_iload_n (pc := 568) G dL_law_568 3 rfl ?_
                                                  refine g_iconst (pc := 569) G (v := 1) dL_law_569 (by decide) ?_
                                                  refine g_iadd (pc := 570) G dL_law_570 ?_
                                                  obtain ⟨b356, h⟩ := gd_e h
                                                  refine g_sld (pc := 571) G hX hbl hbs b356 dL_law_571 ?_
                                                  obtain ⟨r359, e358, h⟩ := bd_e h
                                                  have k357 : kd T19 a12 = 9 := by
                                                    obtain ⟨ee, k0⟩ := ck_e e358
                                                    cases ee
                                                    exact k0
                                                  obtain ⟨r362, V361, e360, h⟩ := bd2_e h
                                                  refine g_callV (pc := 572) (As := [.int (xs (v24 + 1).toNatClampNeg)]) (rest := [.int r355]) (st2 := [.int r362, .int r355]) G (c_Mo_count l D ca b k357 e360) (mb_Mo_count G.2.2.2.2.1) (q1062 G.2.2.2.2.1) (q1063 G.2.2.2.2.1) (q1061 G.2.2.2.2.1) ci_9 k357 rfl rfl (Nat.le_of_ble_eq_true rfl) ⟨Nat.le_trans (Nat.le_of_ble_eq_true rfl) hR.1, Nat.le_trans (Nat.le_of_ble_eq_true rfl) hR.2⟩ ⟨Nat.le_trans (Nat.le_of_ble_eq_true rfl) hC.1, Nat.le_trans (Nat.le_of_ble_eq_true rfl) hC.2⟩ rfl rfl dL_law_572 ?_
                                                  refine g_icmp_eq (pc := 575) G 580 dL_law_575 (by decide) (fun c363 => ?_) (fun c363 => ?_)
                                                  · rw [if_pos c363] at h
                                                    refine g_iinc (v := v24 + 3) (L' := [(3, .int (v24 + 3)), (0, .ref bs), (1, rv b (some a1)), (2, rv b (some a12))]) (pc := 580) G dL_law_580 3 rfl rfl (by decide) rfl ?_
                                                    refine g_goto (pc := 583) G 18 dL_law_583 (by decide) ?_
                                                    exact g_sub [1, 2, 3, 0] rfl (ih26 _ _ h)
                                                  · rw [if_neg c363] at h
                                                    refine g_iconst (pc := 578) G (v := 0) dL_law_578 (by decide) ?_
                                                    exact absurd h (by decide)
                                                exact g_tabI (pc := 32) G 557 dL_law_32 (by rw [c348] <;> decide) (by rw [c348] <;> decide) (by rw [c348] <;> rfl) (by decide) K364
                                              · rw [if_neg c348] at h
                                                have K365 : WG p l e room_1 s m #[Value.ref bs] below meth c D ca b 4 (lw_Z below #[Value.ref bs] s) 182 15270 T19 V25 580 [(0, .ref bs), (1, rv b (some a1)), (2, rv b (some a12)), (3, .int v24)] [] := by
                                                  refine g_iinc (v := v24 + 3) (L' := [(3, .int (v24 + 3)), (0, .ref bs), (1, rv b (some a1)), (2, rv b (some a12))]) (pc := 580) G dL_law_580 3 rfl rfl (by decide) rfl ?_
                                                  refine g_goto (pc := 583) G 18 dL_law_583 (by decide) ?_
                                                  exact g_sub [1, 2, 3, 0] rfl (ih26 _ _ h)
                                                have c30T := lv_neT (a := 0) c30 (by decide)
                                                have c47T := lv_neT (a := 1) c47 (by decide)
                                                have c62T := lv_neT (a := 2) c62 (by decide)
                                                have c77T := lv_neT (a := 3) c77 (by decide)
                                                have c92T := lv_neT (a := 4) c92 (by decide)
                                                have c111T := lv_neT (a := 5) c111 (by decide)
                                                have c128T := lv_neT (a := 6) c128 (by decide)
                                                have c145T := lv_neT (a := 7) c145 (by decide)
                                                have c160T := lv_neT (a := 8) c160 (by decide)
                                                have c175T := lv_neT (a := 9) c175 (by decide)
                                                have c194T := lv_neT (a := 10) c194 (by decide)
                                                have c213T := lv_neT (a := 11) c213 (by decide)
                                                have c232T := lv_neT (a := 12) c232 (by decide)
                                                have c249T := lv_neT (a := 13) c249 (by decide)
                                                have c266T := lv_neT (a := 14) c266 (by decide)
                                                have c281T := lv_neT (a := 15) c281 (by decide)
                                                have c299T := lv_neT (a := 16) c299 (by decide)
                                                have c314T := lv_neT (a := 17) c314 (by decide)
                                                have c331T := lv_neT (a := 18) c331 (by decide)
                                                have c348T := lv_neT (a := 19) c348 (by decide)
                                                exact g_tabO (pc := 32) G 580 dL_law_32 (by omega) (by decide) K365
  exact g_sub [3, 2, 1, 0] rfl (LP27 _ _ _ h)
