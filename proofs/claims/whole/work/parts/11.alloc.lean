section AL
variable {p : Program} {l : Launch} {e : Env} {R : Room} {s : State} {m : MethodId} {args : Array Value} {below : List Frame} {meth : Method} {c : Code} {D : va_G} {ca : Nat → ClassId} {b nL : Nat} {Q : State → Prop} {cells slots : Nat} {T : Tx} {V : Vx} {pc : Nat} {L : List (Nat × Value)} {st : List Value} {cc : ByteArray} {ret : Option FieldType} {own mn : String}
/-- a new cell: the world with it -/
theorem GW_new {k n : Nat} {H H1 : Heap} {locs : List Loc} (hW : GW D ca b T V s.heap cells H locs) (hH : H.size = b + tp T) (hb : b ≤ s.heap.size) (hk : k < 20) (e1 : va_at D vwCl (b + tp T, ce b ca (nT T k n) (zV T V) (tp T)) H1) (z1 : H1.size = H.size + 1) (o1 : ∀ q, q < H.size → H1[q]? = H[q]?) : GW D ca b (nT T k n) (zV T V) s.heap (cells + 1) H1 locs := by
  have hS := hW.2.2.2
  refine ⟨?_, ?_, ?_, ⟨Nat.le_trans hS.1 (by omega), fun x h1 h2 => (o1 x (Nat.lt_of_lt_of_le h1 hS.1)).trans (hS.2.1 x h1 h2), hS.2.2⟩⟩
  · rw [← cs_new rfl]
    refine (hW.1.kept fun k x hx => o1 x.1 ((hW.1 k x hx).lt)).app (fun k x hx => ?_)
    have hz : k < 1 := (List.getElem?_eq_some_iff.mp hx).1
    rw [show k = 0 by omega] at hx
    cases hx
    exact e1
  · have := hW.2.1
    show s.heap.size + (cells + 1) = b + (tp T + 1)
    omega
  · intro a ha
    have ha : tp T + 1 ≤ a := ha
    have h1 : ¬ a = T.2.2 := by
      have : tp T = T.2.2 := rfl
      omega
    have h2 := hW.2.2.1 a (by omega)
    show (if a = T.2.2 then k else T.1 a) = 99
    rw [if_neg h1]
    exact h2
theorem zV_fI (T : Tx) (V : Vx) (f : Nat) : fI (zV T V) f (tp T) = 0 := by simp [fI, zV, tp]
theorem zV_fR (T : Tx) (V : Vx) (f : Nat) : fR (zV T V) f (tp T) = none := by simp [fR, zV, tp]
theorem zV_aI (T : Tx) (V : Vx) : aI (zV T V) (tp T) = fun _ => 0 := by funext j; simp [aI, zV, tp]
theorem zV_aL (T : Tx) (V : Vx) : aL (zV T V) (tp T) = fun _ => 0 := by funext j; simp [aL, zV, tp]
theorem zV_aR (T : Tx) (V : Vx) (j : Nat) : aR (zV T V) (tp T) j = none := by simp [aR, zV, tp]
theorem g_new (G : GX p s m meth c cc nL ret own mn D ca b) {kc N index : Nat} {C : String} {Tt : u_T} {ty : Nat → FieldType} (ci : CI kc C Tt N ty) (hws : ∀ w ∈ u_ws C Tt N, w.before args s = true) (hdf : ∀ j, j < N → defaultValue (ty j) = if isRf kc j = true then Value.null else .int 0) (hcl : (Cond.classLink own index C).before args s = true) (hinst : (Cond.instantiable C N).before args s = true) (hini : (Cond.initialized C).before args s = true) {T1 : Tx} {V1 : Vx} (hT : nT T kc 0 = T1) (hV : zV T V = V1) {a : Nat} (ha : tp T = a) (hcs : cells + 1 ≤ R.cells ∧ slots + N ≤ R.slots) (hdg : decode cc pc = .ok (.new index, 3))
    (kk : WG p l e R s m args below meth c D ca b nL Q (cells + 1) (slots + N) T1 V1 (pc + 3) L (rv b (some a) :: st)) : WG p l e R s m args below meth c D ca b nL Q cells slots T V pc L st := by
  subst hT hV ha
  intro H locs ls hW hl
  refine W_sz fun hsz => ?_
  have hlow := GW_low hW G.2.2.2.2.2.2.2.2.1
  have hE := hW.2.1
  have hH : H.size = b + tp T := by omega
  have hKn := G.2.2.2.2.2.1.1 kc _ ci.1
  refine W.newcK G.1 G.2.1 G.2.2.2.1 hcl hinst hini rfl hdg hcs.1 hcs.2 hKn.2.1 hH fun H1 kC hkC e1 z1 o1 => ?_
  refine kk H1 locs ls (GW_new hW hH G.2.2.2.2.2.2.2.2.1 (by have := ci.2.2.1; omega) ?_ (by omega) (fun q hq => o1 q (by omega))) hl
  rw [ce_o (nT_kd T kc 0) ci.2.2.1]
  refine ⟨_, ci.1, (u_born ty hws (fun _ h => h) hKn hkC e1 ci.2.2.2.1).to fun j hj => ?_⟩
  rw [hdf j hj]
  show _ = ((List.range (nf kc)).map (cv b (zV T V) kc (tp T))).getD j .null
  rw [List.getD_eq_getElem?_getD, fs_at b (zV T V) (tp T) (by rw [ci.2.1]; exact hj)]
  show _ = cv b (zV T V) kc (tp T) j
  by_cases h1 : isRf kc j = true
  · rw [if_pos h1, cv_R _ _ _ h1, zV_fR]
    rfl
  · rw [if_neg h1, cv_I _ _ _ (by simpa using h1), zV_fI]
theorem g_newaC (G : GX p s m meth c cc nL ret own mn D ca b) (harr : (Cond.arrayClass .char).before args s = true) {n : Int32} {N : Nat} (hn : ¬ n < 0) (hN : n.toNatClampNeg = N) (hbytes : N * 2 ≤ 536870912) {T1 : Tx} {V1 : Vx} (hT : nT T 10 N = T1) (hV : zV T V = V1) {a : Nat} (ha : tp T = a) (hcs : cells + 1 ≤ R.cells ∧ slots + N ≤ R.slots) (hdg : decode cc pc = .ok (.newarray .char, 2))
    (kk : WG p l e R s m args below meth c D ca b nL Q (cells + 1) (slots + N) T1 V1 (pc + 2) L (rv b (some a) :: st)) : WG p l e R s m args below meth c D ca b nL Q cells slots T V pc L (.int n :: st) := by
  subst hT hV ha
  intro H locs ls hW hl
  refine W_sz fun hsz => ?_
  have hlow := GW_low hW G.2.2.2.2.2.2.2.2.1
  have hE := hW.2.1
  have hH : H.size = b + tp T := by omega
  have hA := (G.2.2.2.2.2.1.2 0 (ca 10, .char) rfl).2
  refine va_newaK (atype := .char) G.1 G.2.1 harr rfl hdg rfl hn hN hbytes hcs.1 hcs.2 hH fun H1 cA e1 z1 o1 hAr hNm => ?_
  have hcA : cA = ca 10 := Option.some.inj (hNm.symm.trans hA)
  subst hcA
  refine kk H1 locs ls (GW_new hW hH G.2.2.2.2.2.2.2.2.1 (by omega) ?_ (by omega) (fun q hq => o1 q (by omega))) hl
  rw [ce_i (nT_kd T 10 N) (by omega) (by omega), nT_ln, zV_aI]
  exact e1
theorem g_newaI (G : GX p s m meth c cc nL ret own mn D ca b) (harr : (Cond.arrayClass .int).before args s = true) {n : Int32} {N : Nat} (hn : ¬ n < 0) (hN : n.toNatClampNeg = N) (hbytes : N * 4 ≤ 536870912) {T1 : Tx} {V1 : Vx} (hT : nT T 11 N = T1) (hV : zV T V = V1) {a : Nat} (ha : tp T = a) (hcs : cells + 1 ≤ R.cells ∧ slots + N ≤ R.slots) (hdg : decode cc pc = .ok (.newarray .int, 2))
    (kk : WG p l e R s m args below meth c D ca b nL Q (cells + 1) (slots + N) T1 V1 (pc + 2) L (rv b (some a) :: st)) : WG p l e R s m args below meth c D ca b nL Q cells slots T V pc L (.int n :: st) := by
  subst hT hV ha
  intro H locs ls hW hl
  refine W_sz fun hsz => ?_
  have hlow := GW_low hW G.2.2.2.2.2.2.2.2.1
  have hE := hW.2.1
  have hH : H.size = b + tp T := by omega
  have hA := (G.2.2.2.2.2.1.2 1 (ca 11, .int) rfl).2
  refine va_newaK (atype := .int) G.1 G.2.1 harr rfl hdg rfl hn hN hbytes hcs.1 hcs.2 hH fun H1 cA e1 z1 o1 hAr hNm => ?_
  have hcA : cA = ca 11 := Option.some.inj (hNm.symm.trans hA)
  subst hcA
  refine kk H1 locs ls (GW_new hW hH G.2.2.2.2.2.2.2.2.1 (by omega) ?_ (by omega) (fun q hq => o1 q (by omega))) hl
  rw [ce_i (nT_kd T 11 N) (by omega) (by omega), nT_ln, zV_aI]
  exact e1
theorem g_newaJ (G : GX p s m meth c cc nL ret own mn D ca b) (harr : (Cond.arrayClass .long).before args s = true) {n : Int32} {N : Nat} (hn : ¬ n < 0) (hN : n.toNatClampNeg = N) (hbytes : N * 8 ≤ 536870912) {T1 : Tx} {V1 : Vx} (hT : nT T 12 N = T1) (hV : zV T V = V1) {a : Nat} (ha : tp T = a) (hcs : cells + 1 ≤ R.cells ∧ slots + N ≤ R.slots) (hdg : decode cc pc = .ok (.newarray .long, 2))
    (kk : WG p l e R s m args below meth c D ca b nL Q (cells + 1) (slots + N) T1 V1 (pc + 2) L (rv b (some a) :: st)) : WG p l e R s m args below meth c D ca b nL Q cells slots T V pc L (.int n :: st) := by
  subst hT hV ha
  intro H locs ls hW hl
  refine W_sz fun hsz => ?_
  have hlow := GW_low hW G.2.2.2.2.2.2.2.2.1
  have hE := hW.2.1
  have hH : H.size = b + tp T := by omega
  have hA := (G.2.2.2.2.2.1.2 2 (ca 12, .long) rfl).2
  refine va_newaK (atype := .long) G.1 G.2.1 harr rfl hdg rfl hn hN hbytes hcs.1 hcs.2 hH fun H1 cA e1 z1 o1 hAr hNm => ?_
  have hcA : cA = ca 12 := Option.some.inj (hNm.symm.trans hA)
  subst hcA
  refine kk H1 locs ls (GW_new hW hH G.2.2.2.2.2.2.2.2.1 (by omega) ?_ (by omega) (fun q hq => o1 q (by omega))) hl
  rw [ce_l (nT_kd T 12 N), nT_ln, zV_aL]
  exact e1
theorem g_newq (G : GX p s m meth c cc nL ret own mn D ca b) {index kc t0 : Nat} {C : String} (hcl : (Cond.classLink own index C).before args s = true) (hov : (Cond.arrayOver (.object C)).before args s = true) (hkc : 12 < kc ∧ kc < 16) (hty : (tyl ca)[t0]? = some (ca kc, .object C)) {n : Int32} {N : Nat} (hn : ¬ n < 0) (hN : n.toNatClampNeg = N) (hbytes : N * 4 ≤ 536870912) {T1 : Tx} {V1 : Vx} (hT : nT T kc N = T1) (hV : zV T V = V1) {a : Nat} (ha : tp T = a) (hcs : cells + 1 ≤ R.cells ∧ slots + N ≤ R.slots) (hdg : decode cc pc = .ok (.anewarray index, 3))
    (kk : WG p l e R s m args below meth c D ca b nL Q (cells + 1) (slots + N) T1 V1 (pc + 3) L (rv b (some a) :: st)) : WG p l e R s m args below meth c D ca b nL Q cells slots T V pc L (.int n :: st) := by
  subst hT hV ha hN
  intro H locs ls hW hl
  refine W_sz fun hsz => ?_
  have hlow := GW_low hW G.2.2.2.2.2.2.2.2.1
  have hE := hW.2.1
  have hH : H.size = b + tp T := by omega
  obtain ⟨kA0, comp0, f1, f2, f3, f4⟩ := (G.2.2.2.2.2.1.2 t0 _ hty).2
  refine W.anew G.1 G.2.1 G.2.2.2.1 hcl hov rfl hdg rfl hn hbytes hcs.1 hcs.2 fun cA kA comp g1 g2 g3 g4 => ?_
  have hcA : cA = ca kc := Option.some.inj (g1.symm.trans f4)
  subst hcA
  generalize hH1 : H.push ({ cls := ca kc, slots := Array.replicate n.toNatClampNeg .null, vm := .none } : Cell) = H1
  have z1 : H1.size = H.size + 1 := by rw [← hH1, Array.size_push]
  have e1 : H1[H.size]? = some (arrV (ca kc) n.toNatClampNeg (fun _ => .null)) := by rw [← hH1, Array.getElem?_push_size, ← arrV_new]
  have o1 : ∀ q : Nat, q < H.size → H1[q]? = H[q]? := fun q hq => by rw [← hH1, Array.getElem?_push, if_neg (Nat.ne_of_lt hq)]
  rw [hH] at e1 ⊢
  refine kk H1 locs ls (GW_new hW hH G.2.2.2.2.2.2.2.2.1 (by omega) ?_ z1 o1) hl
  rw [ce_r (nT_kd T kc n.toNatClampNeg) hkc.1, nT_ln]
  simp only [zV_aR]
  exact e1
theorem df_0 : ∀ j, j < 3 → defaultValue (tyX0 j) = if isRf 0 j = true then Value.null else .int 0 := by decide +kernel
theorem df_1 : ∀ j, j < 2 → defaultValue (tyX1 j) = if isRf 1 j = true then Value.null else .int 0 := by decide +kernel
theorem df_2 : ∀ j, j < 5 → defaultValue (tyX2 j) = if isRf 2 j = true then Value.null else .int 0 := by decide +kernel
theorem df_3 : ∀ j, j < 5 → defaultValue (tyX4 j) = if isRf 3 j = true then Value.null else .int 0 := by decide +kernel
theorem df_4 : ∀ j, j < 2 → defaultValue (tyX5 j) = if isRf 4 j = true then Value.null else .int 0 := by decide +kernel
theorem df_5 : ∀ j, j < 6 → defaultValue (tyX6 j) = if isRf 5 j = true then Value.null else .int 0 := by decide +kernel
theorem df_6 : ∀ j, j < 4 → defaultValue (tyX7 j) = if isRf 6 j = true then Value.null else .int 0 := by decide +kernel
theorem df_7 : ∀ j, j < 2 → defaultValue (tyX8 j) = if isRf 7 j = true then Value.null else .int 0 := by decide +kernel
theorem df_8 : ∀ j, j < 8 → defaultValue (tyX9 j) = if isRf 8 j = true then Value.null else .int 0 := by decide +kernel
theorem df_9 : ∀ j, j < 20 → defaultValue (tyX10 j) = if isRf 9 j = true then Value.null else .int 0 := by decide +kernel
end AL
