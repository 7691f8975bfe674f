section HP
variable {p : Program} {l : Launch} {e : Env} {R : Room} {s : State} {m : MethodId} {args : Array Value} {below : List Frame} {meth : Method} {c : Code} {D : va_G} {ca : Nat → ClassId} {b nL : Nat} {Q : State → Prop} {cells slots : Nat} {T : Tx} {V : Vx} {pc : Nat} {L : List (Nat × Value)} {st : List Value} {cc : ByteArray} {ret : Option FieldType} {own mn : String}
theorem cs_obj {kc N : Nat} {C : String} {Tt : u_T} {ty : Nat → FieldType} {H0 H : Heap} {locs : List Loc} (ci : CI kc C Tt N ty) (hW : GW D ca b T V H0 cells H locs) {a : Nat} (hk : kd T a = kc) : (cs b ca T V)[a]? = some (b + a, .inr (kc, (List.range (nf kc)).map (cv b V kc a))) := by
  rw [cs_at (tp_lt hW hk (by have := ci.2.2.1; omega)), ce_o hk ci.2.2.1]
theorem fs_at {kc k : Nat} (b : Nat) (V : Vx) (a : Nat) (h : k < nf kc) : ((List.range (nf kc)).map (cv b V kc a))[k]? = some (cv b V kc a k) := by simp [h]
theorem cv_I {kc k : Nat} (b : Nat) (V : Vx) (a : Nat) (h : isRf kc k = false) : cv b V kc a k = .int (fI V (100 * kc + k) a) := by simp [cv, h]
theorem cv_R {kc k : Nat} (b : Nat) (V : Vx) (a : Nat) (h : isRf kc k = true) : cv b V kc a k = rv b (fR V (100 * kc + k) a) := by simp [cv, h]
theorem g_getI (G : GX p s m meth c cc nL ret own mn D ca b) {kc k N index a f : Nat} {C : String} {Tt : u_T} {ty : Nat → FieldType} (ci : CI kc C Tt N ty) (hws : ∀ w ∈ u_ws C Tt N, w.before args s = true) (hn : k < N) (hI : isRf kc k = false) (hf : 100 * kc + k = f) (hk : kd T a = kc) (hlink : (Cond.fieldLink own index (Tt k).1 (Tt k).2.1 (Tt k).2.2.1).before args s = true) (hdg : decode cc pc = .ok (.getfield index, 3)) (kk : WG p l e R s m args below meth c D ca b nL Q cells slots T V (pc + 3) L (.int (fI V f a) :: st)) : WG p l e R s m args below meth c D ca b nL Q cells slots T V pc L (rv b (some a) :: st) := by
  subst hf
  intro H locs ls hW hl
  exact va_get (v := .int (fI V (100 * kc + k) a)) G.1 G.2.1 hws (fun _ h => h) G.2.2.2.1 G.2.2.2.2.2.1 hW.1 a (cs_obj ci hW hk) ci.1 k hn hlink (fun _ h => h) (by rw [fs_at b V a (by rw [ci.2.1]; exact hn), cv_I b V a hI]) hdg (kk H locs ls hW hl)
theorem g_getR (G : GX p s m meth c cc nL ret own mn D ca b) {kc k N index a f r : Nat} {C : String} {Tt : u_T} {ty : Nat → FieldType} (ci : CI kc C Tt N ty) (hws : ∀ w ∈ u_ws C Tt N, w.before args s = true) (hn : k < N) (hI : isRf kc k = true) (hf : 100 * kc + k = f) (hk : kd T a = kc) (hlink : (Cond.fieldLink own index (Tt k).1 (Tt k).2.1 (Tt k).2.2.1).before args s = true) (hdg : decode cc pc = .ok (.getfield index, 3)) (hr : fR V f a = some r) (kk : WG p l e R s m args below meth c D ca b nL Q cells slots T V (pc + 3) L (rv b (some r) :: st)) : WG p l e R s m args below meth c D ca b nL Q cells slots T V pc L (rv b (some a) :: st) := by
  subst hf
  intro H locs ls hW hl
  exact va_get (v := rv b (some r)) G.1 G.2.1 hws (fun _ h => h) G.2.2.2.1 G.2.2.2.2.2.1 hW.1 a (cs_obj ci hW hk) ci.1 k hn hlink (fun _ h => h) (by rw [fs_at b V a (by rw [ci.2.1]; exact hn), cv_R b V a hI, hr]) hdg (kk H locs ls hW hl)
theorem g_getIN (G : GX p s m meth c cc nL ret own mn D ca b) {kc k N index a f : Nat} {C host : String} {Tt : u_T} {ty : Nat → FieldType} (ci : CI kc C Tt N ty) (hws : ∀ w ∈ u_ws C Tt N, w.before args s = true) (hn : k < N) (hI : isRf kc k = false) (hf : 100 * kc + k = f) (hk : kd T a = kc) (hlink : (Cond.fieldLinkNest own index (Tt k).1 (Tt k).2.1 (Tt k).2.2.1 host).before args s = true) (hdg : decode cc pc = .ok (.getfield index, 3)) (kk : WG p l e R s m args below meth c D ca b nL Q cells slots T V (pc + 3) L (.int (fI V f a) :: st)) : WG p l e R s m args below meth c D ca b nL Q cells slots T V pc L (rv b (some a) :: st) := by
  subst hf
  intro H locs ls hW hl
  exact va_getN (v := .int (fI V (100 * kc + k) a)) G.1 G.2.1 hws (fun _ h => h) G.2.2.2.1 G.2.2.2.2.2.1 hW.1 a (cs_obj ci hW hk) ci.1 k hn hlink (fun _ h => h) (by rw [fs_at b V a (by rw [ci.2.1]; exact hn), cv_I b V a hI]) hdg (kk H locs ls hW hl)
theorem g_getRN (G : GX p s m meth c cc nL ret own mn D ca b) {kc k N index a f r : Nat} {C host : String} {Tt : u_T} {ty : Nat → FieldType} (ci : CI kc C Tt N ty) (hws : ∀ w ∈ u_ws C Tt N, w.before args s = true) (hn : k < N) (hI : isRf kc k = true) (hf : 100 * kc + k = f) (hk : kd T a = kc) (hlink : (Cond.fieldLinkNest own index (Tt k).1 (Tt k).2.1 (Tt k).2.2.1 host).before args s = true) (hdg : decode cc pc = .ok (.getfield index, 3)) (hr : fR V f a = some r) (kk : WG p l e R s m args below meth c D ca b nL Q cells slots T V (pc + 3) L (rv b (some r) :: st)) : WG p l e R s m args below meth c D ca b nL Q cells slots T V pc L (rv b (some a) :: st) := by
  subst hf
  intro H locs ls hW hl
  exact va_getN (v := rv b (some r)) G.1 G.2.1 hws (fun _ h => h) G.2.2.2.1 G.2.2.2.2.2.1 hW.1 a (cs_obj ci hW hk) ci.1 k hn hlink (fun _ h => h) (by rw [fs_at b V a (by rw [ci.2.1]; exact hn), cv_R b V a hI, hr]) hdg (kk H locs ls hW hl)
theorem g_putI (G : GX p s m meth c cc nL ret own mn D ca b) {kc k N index a f : Nat} {v : Int32} {C : String} {Tt : u_T} {ty : Nat → FieldType} (ci : CI kc C Tt N ty) (hws : ∀ w ∈ u_ws C Tt N, w.before args s = true) (hn : k < N) (hI : isRf kc k = false) (hf : 100 * kc + k = f) (hk : kd T a = kc) (hfin : (Tt k).2.2.2 = false) (hnar : narrow (ty k) (.int v) = .int v ∧ fits (ty k) (.int v) = true) (hlink : (Cond.fieldLink own index (Tt k).1 (Tt k).2.1 (Tt k).2.2.1).before args s = true) {V1 : Vx} (hV : sI V f a v = V1) (hdg : decode cc pc = .ok (.putfield index, 3)) (kk : WG p l e R s m args below meth c D ca b nL Q cells slots T V1 (pc + 3) L st) : WG p l e R s m args below meth c D ca b nL Q cells slots T V pc L (.int v :: rv b (some a) :: st) := by
  subst hV
  subst hf
  intro H locs ls hW hl
  refine va_put (v := .int v) (ty := ty k) G.1 G.2.1 hws (fun _ h => h) ty ci.2.2.2.1 ci.2.2.2.2 G.2.2.2.1 G.2.2.2.2.2.1 hW.1 (cs_D b ca T V) hW.2.2.2 a (cs_obj ci hW hk) ci.1 k hn hlink (fun _ h => h) hfin (ci.2.2.2.1 k hn) hnar.1 hnar.2 (by simp [ci.2.1, hn]) hdg (fun H1 locs1 hP1 hD1 hS1 => ?_)
  rw [cs_sI hk ci.2.2.1 hI] at hP1
  exact kk H1 locs1 ls ⟨hP1, hW.2.1, hW.2.2.1, hS1⟩ hl
theorem g_putIN (G : GX p s m meth c cc nL ret own mn D ca b) {kc k N index a f : Nat} {v : Int32} {C host : String} {Tt : u_T} {ty : Nat → FieldType} (ci : CI kc C Tt N ty) (hws : ∀ w ∈ u_ws C Tt N, w.before args s = true) (hn : k < N) (hI : isRf kc k = false) (hf : 100 * kc + k = f) (hk : kd T a = kc) (hfin : (Tt k).2.2.2 = false) (hnar : narrow (ty k) (.int v) = .int v ∧ fits (ty k) (.int v) = true) (hlink : (Cond.fieldLinkNest own index (Tt k).1 (Tt k).2.1 (Tt k).2.2.1 host).before args s = true) {V1 : Vx} (hV : sI V f a v = V1) (hdg : decode cc pc = .ok (.putfield index, 3)) (kk : WG p l e R s m args below meth c D ca b nL Q cells slots T V1 (pc + 3) L st) : WG p l e R s m args below meth c D ca b nL Q cells slots T V pc L (.int v :: rv b (some a) :: st) := by
  subst hV
  subst hf
  intro H locs ls hW hl
  refine va_putN (v := .int v) (ty := ty k) G.1 G.2.1 hws (fun _ h => h) ty ci.2.2.2.1 ci.2.2.2.2 G.2.2.2.1 G.2.2.2.2.2.1 hW.1 (cs_D b ca T V) hW.2.2.2 a (cs_obj ci hW hk) ci.1 k hn hlink (fun _ h => h) hfin (ci.2.2.2.1 k hn) hnar.1 hnar.2 (by simp [ci.2.1, hn]) hdg (fun H1 locs1 hP1 hD1 hS1 => ?_)
  rw [cs_sI hk ci.2.2.1 hI] at hP1
  exact kk H1 locs1 ls ⟨hP1, hW.2.1, hW.2.2.1, hS1⟩ hl
theorem g_putR (G : GX p s m meth c cc nL ret own mn D ca b) {kc k N index a f : Nat} {v : Nat} {C : String} {Tt : u_T} {ty : Nat → FieldType} (ci : CI kc C Tt N ty) (hws : ∀ w ∈ u_ws C Tt N, w.before args s = true) (hn : k < N) (hI : isRf kc k = true) (hf : 100 * kc + k = f) (hk : kd T a = kc) (hfin : (Tt k).2.2.2 = false) (hnar : ∀ x : Nat, narrow (ty k) (.ref x) = .ref x ∧ fits (ty k) (.ref x) = true) (hlink : (Cond.fieldLink own index (Tt k).1 (Tt k).2.1 (Tt k).2.2.1).before args s = true) {V1 : Vx} (hV : sR V f a (some v) = V1) (hdg : decode cc pc = .ok (.putfield index, 3)) (kk : WG p l e R s m args below meth c D ca b nL Q cells slots T V1 (pc + 3) L st) : WG p l e R s m args below meth c D ca b nL Q cells slots T V pc L (rv b (some v) :: rv b (some a) :: st) := by
  subst hV
  subst hf
  intro H locs ls hW hl
  refine va_put (v := .ref (b + v)) (ty := ty k) G.1 G.2.1 hws (fun _ h => h) ty ci.2.2.2.1 ci.2.2.2.2 G.2.2.2.1 G.2.2.2.2.2.1 hW.1 (cs_D b ca T V) hW.2.2.2 a (cs_obj ci hW hk) ci.1 k hn hlink (fun _ h => h) hfin (ci.2.2.2.1 k hn) (hnar _).1 (hnar _).2 (by simp [ci.2.1, hn]) hdg (fun H1 locs1 hP1 hD1 hS1 => ?_)
  rw [show Value.ref (b + v) = rv b (some v) from rfl, cs_sR hk ci.2.2.1 hI] at hP1
  exact kk H1 locs1 ls ⟨hP1, hW.2.1, hW.2.2.1, hS1⟩ hl
theorem g_putRF (G : GX p s m meth c cc nL ret own mn D ca b) {kc k N index a f : Nat} {v : Nat} {C : String} {Tt : u_T} {ty : Nat → FieldType} (ci : CI kc C Tt N ty) (hws : ∀ w ∈ u_ws C Tt N, w.before args s = true) (hn : k < N) (hI : isRf kc k = true) (hf : 100 * kc + k = f) (hk : kd T a = kc) (hfin : (Tt k).2.2.2 = true) (hmn : mn = "<init>") (hdecl : (Tt k).1 = own) (hnar : ∀ x : Nat, narrow (ty k) (.ref x) = .ref x ∧ fits (ty k) (.ref x) = true) (hlink : (Cond.fieldLink own index (Tt k).1 (Tt k).2.1 (Tt k).2.2.1).before args s = true) {V1 : Vx} (hV : sR V f a (some v) = V1) (hdg : decode cc pc = .ok (.putfield index, 3)) (kk : WG p l e R s m args below meth c D ca b nL Q cells slots T V1 (pc + 3) L st) : WG p l e R s m args below meth c D ca b nL Q cells slots T V pc L (rv b (some v) :: rv b (some a) :: st) := by
  subst hV
  subst hf
  intro H locs ls hW hl
  refine va_putF (v := .ref (b + v)) (ty := ty k) G.1 G.2.1 hws (fun _ h => h) ty ci.2.2.2.1 ci.2.2.2.2 G.2.2.2.1 G.2.2.2.2.2.1 hW.1 (cs_D b ca T V) hW.2.2.2 a (cs_obj ci hW hk) ci.1 k hn hlink (fun _ h => h) hfin (by rw [← hmn]; exact G.2.2.2.2.2.2.2.2.2) hdecl (ci.2.2.2.1 k hn) (hnar _).1 (hnar _).2 (by simp [ci.2.1, hn]) hdg (fun H1 locs1 hP1 hD1 hS1 => ?_)
  rw [show Value.ref (b + v) = rv b (some v) from rfl, cs_sR hk ci.2.2.1 hI] at hP1
  exact kk H1 locs1 ls ⟨hP1, hW.2.1, hW.2.2.1, hS1⟩ hl
theorem g_alen (G : GX p s m meth c cc nL ret own mn D ca b) {kc a t0 : Nat} {ty : FieldType} (hk : kd T a = kc) (hr : 10 ≤ kc ∧ kc < 16) (hty : (tyl ca)[t0]? = some (ca kc, ty)) (hdg : decode cc pc = .ok (.arraylength, 1)) (kk : WG p l e R s m args below meth c D ca b nL Q cells slots T V (pc + 1) L (.int (nI (ln T a)) :: st)) : WG p l e R s m args below meth c D ca b nL Q cells slots T V pc L (rv b (some a) :: st) := by
  intro H locs ls hW hl
  have hlt := tp_lt hW hk (by omega)
  by_cases h1 : kc < 12
  · exact va_alen (v := nI (ln T a)) G.1 G.2.1 G.2.2.2.2.2.1 hW.1 a t0 ((cs_at hlt).trans (by rw [ce_i hk (by omega) h1])) hty rfl hdg (kk H locs ls hW hl)
  · by_cases h2 : kc = 12
    · subst h2
      exact va_alen (v := nI (ln T a)) G.1 G.2.1 G.2.2.2.2.2.1 hW.1 a t0 ((cs_at hlt).trans (by rw [ce_l hk])) hty rfl hdg (kk H locs ls hW hl)
    · exact va_alen (v := nI (ln T a)) G.1 G.2.1 G.2.2.2.2.2.1 hW.1 a t0 ((cs_at hlt).trans (by rw [ce_r hk (by omega)])) hty rfl hdg (kk H locs ls hW hl)
theorem g_iald (G : GX p s m meth c cc nL ret own mn D ca b) {a : Nat} {i : Int32} (hk : kd T a = 11) (hin : inb i (ln T a) = true) (hdg : decode cc pc = .ok (.iaload, 1)) (kk : WG p l e R s m args below meth c D ca b nL Q cells slots T V (pc + 1) L (.int (aI V a i.toNatClampNeg) :: st)) : WG p l e R s m args below meth c D ca b nL Q cells slots T V pc L (.int i :: rv b (some a) :: st) := by
  intro H locs ls hW hl
  exact va_iald G.1 G.2.1 G.2.2.2.2.2.1 hW.1 a 1 ((cs_at (tp_lt hW hk (by omega))).trans (by rw [ce_i hk (by omega) (by omega)])) rfl (inb_e hin) hdg (kk H locs ls hW hl)
theorem g_cald (G : GX p s m meth c cc nL ret own mn D ca b) {a : Nat} {i : Int32} (hk : kd T a = 10) (hin : inb i (ln T a) = true) (hdg : decode cc pc = .ok (.caload, 1)) (kk : WG p l e R s m args below meth c D ca b nL Q cells slots T V (pc + 1) L (.int (aI V a i.toNatClampNeg) :: st)) : WG p l e R s m args below meth c D ca b nL Q cells slots T V pc L (.int i :: rv b (some a) :: st) := by
  intro H locs ls hW hl
  exact va_cald G.1 G.2.1 G.2.2.2.2.2.1 hW.1 a 0 ((cs_at (tp_lt hW hk (by omega))).trans (by rw [ce_i hk (by omega) (by omega)])) rfl (inb_e hin) hdg (kk H locs ls hW hl)
theorem g_lald (G : GX p s m meth c cc nL ret own mn D ca b) {a : Nat} {i : Int32} (hk : kd T a = 12) (hin : inb i (ln T a) = true) (hdg : decode cc pc = .ok (.laload, 1)) (kk : WG p l e R s m args below meth c D ca b nL Q cells slots T V (pc + 1) L (.long (aL V a i.toNatClampNeg) :: st)) : WG p l e R s m args below meth c D ca b nL Q cells slots T V pc L (.int i :: rv b (some a) :: st) := by
  intro H locs ls hW hl
  exact va_lald G.1 G.2.1 G.2.2.2.2.2.1 hW.1 a 2 ((cs_at (tp_lt hW hk (by omega))).trans (by rw [ce_l hk])) rfl (inb_e hin) hdg (kk H locs ls hW hl)
theorem g_aald (G : GX p s m meth c cc nL ret own mn D ca b) {a kc t0 r : Nat} {i : Int32} {C : String} (hk : kd T a = kc) (hr : 12 < kc ∧ kc < 16) (hty : (tyl ca)[t0]? = some (ca kc, .object C)) (hin : inb i (ln T a) = true) (hdg : decode cc pc = .ok (.aaload, 1)) (he : aR V a i.toNatClampNeg = some r) (kk : WG p l e R s m args below meth c D ca b nL Q cells slots T V (pc + 1) L (rv b (some r) :: st)) : WG p l e R s m args below meth c D ca b nL Q cells slots T V pc L (.int i :: rv b (some a) :: st) := by
  intro H locs ls hW hl
  refine va_aldq G.1 G.2.1 G.2.2.2.2.2.1 hW.1 a t0 ((cs_at (tp_lt hW hk (by omega))).trans (by rw [ce_r hk hr.1])) hty (inb_e hin) hdg ?_
  rw [he]
  exact kk H locs ls hW hl
theorem g_iast (G : GX p s m meth c cc nL ret own mn D ca b) {a : Nat} {i v : Int32} (hk : kd T a = 11) (hin : inb i (ln T a) = true) {V1 : Vx} (hV : wI V a i.toNatClampNeg v = V1) (hdg : decode cc pc = .ok (.iastore, 1)) (kk : WG p l e R s m args below meth c D ca b nL Q cells slots T V1 (pc + 1) L st) : WG p l e R s m args below meth c D ca b nL Q cells slots T V pc L (.int v :: .int i :: rv b (some a) :: st) := by
  subst hV
  intro H locs ls hW hl
  refine va_iast G.1 G.2.1 G.2.2.2.2.2.1 hW.1 (cs_D b ca T V) hW.2.2.2 a 1 ((cs_at (tp_lt hW hk (by omega))).trans (by rw [ce_i hk (by omega) (by omega)])) rfl (inb_e hin) hdg (fun H1 locs1 hP1 hD1 hS1 => ?_)
  rw [cs_wI hk (by omega) (by omega)] at hP1
  exact kk H1 locs1 ls ⟨hP1, hW.2.1, hW.2.2.1, hS1⟩ hl
theorem g_cast (G : GX p s m meth c cc nL ret own mn D ca b) {a : Nat} {i v : Int32} (hk : kd T a = 10) (hin : inb i (ln T a) = true) {V1 : Vx} (hV : wI V a i.toNatClampNeg (vp_nar .char v) = V1) (hdg : decode cc pc = .ok (.castore, 1)) (kk : WG p l e R s m args below meth c D ca b nL Q cells slots T V1 (pc + 1) L st) : WG p l e R s m args below meth c D ca b nL Q cells slots T V pc L (.int v :: .int i :: rv b (some a) :: st) := by
  subst hV
  intro H locs ls hW hl
  refine va_cast G.1 G.2.1 G.2.2.2.2.2.1 hW.1 (cs_D b ca T V) hW.2.2.2 a 0 ((cs_at (tp_lt hW hk (by omega))).trans (by rw [ce_i hk (by omega) (by omega)])) rfl (inb_e hin) hdg (fun H1 locs1 hP1 hD1 hS1 => ?_)
  rw [cs_wI hk (by omega) (by omega)] at hP1
  exact kk H1 locs1 ls ⟨hP1, hW.2.1, hW.2.2.1, hS1⟩ hl
theorem g_last (G : GX p s m meth c cc nL ret own mn D ca b) {a : Nat} {i : Int32} {v : Int64} (hk : kd T a = 12) (hin : inb i (ln T a) = true) {V1 : Vx} (hV : wL V a i.toNatClampNeg v = V1) (hdg : decode cc pc = .ok (.lastore, 1)) (kk : WG p l e R s m args below meth c D ca b nL Q cells slots T V1 (pc + 1) L st) : WG p l e R s m args below meth c D ca b nL Q cells slots T V pc L (.long v :: .int i :: rv b (some a) :: st) := by
  subst hV
  intro H locs ls hW hl
  refine va_last G.1 G.2.1 G.2.2.2.2.2.1 hW.1 (cs_D b ca T V) hW.2.2.2 a 2 ((cs_at (tp_lt hW hk (by omega))).trans (by rw [ce_l hk])) rfl (inb_e hin) hdg (fun H1 locs1 hP1 hD1 hS1 => ?_)
  rw [cs_wL hk] at hP1
  exact kk H1 locs1 ls ⟨hP1, hW.2.1, hW.2.2.1, hS1⟩ hl
theorem g_aast (G : GX p s m meth c cc nL ret own mn D ca b) {a kc t0 kv r N : Nat} {i : Int32} {C : String} {Tt : u_T} {ty : Nat → FieldType} (hk : kd T a = kc) (hr : 12 < kc ∧ kc < 16) (hty : (tyl ca)[t0]? = some (ca kc, .object C)) (ci : CI kv C Tt N ty) (hkr : kd T r = kv) (hin : inb i (ln T a) = true) {V1 : Vx} (hV : wR V a i.toNatClampNeg (some r) = V1) (hdg : decode cc pc = .ok (.aastore, 1)) (kk : WG p l e R s m args below meth c D ca b nL Q cells slots T V1 (pc + 1) L st) : WG p l e R s m args below meth c D ca b nL Q cells slots T V pc L (rv b (some r) :: .int i :: rv b (some a) :: st) := by
  subst hV
  intro H locs ls hW hl
  refine va_astq (r := (C, Tt, N)) G.1 G.2.1 G.2.2.2.2.2.1 hW.1 (cs_D b ca T V) hW.2.2.2 a t0 r kv ((cs_at (tp_lt hW hk (by omega))).trans (by rw [ce_r hk hr.1])) hty (cs_obj ci hW hkr) ci.1 (inb_e hin) hdg (fun H1 locs1 hP1 hD1 hS1 => ?_)
  rw [show (some (b + r) : Option Nat) = (some r).map (fun k => b + k) from rfl, cs_wR hk hr.1] at hP1
  exact kk H1 locs1 ls ⟨hP1, hW.2.1, hW.2.2.1, hS1⟩ hl
end HP
