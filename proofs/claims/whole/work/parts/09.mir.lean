def Hi_size (T : Tx) (V : Vx) (this : Nat) : Option (Int32) :=
  some (fI V 2 this)
def Hi_clear (T : Tx) (V : Vx) (this : Nat) : Option (Vx) :=
  lt (sI V 2 this 0) (fun V1 => some V1)
def Hi_forgetOldest_L2 (T : Tx) (this : Nat) : Nat → Vx → Int32 → Option (Vx)
  | 0, _, _ => none
  | n1 + 1, V3, v2 => (if 6 ≤ v2 then lt (sI V3 2 this 5) (fun V7 => some V7) else bd (ck T 11 (fR V3 0 this)) (fun r9 => bd (ck T 11 (fR V3 0 this)) (fun r13 => gd (inb v2 (ln T r13)) (gd (inb (v2 - 1) (ln T r9)) (lt (wI V3 r9 (v2 - 1).toNatClampNeg (aI V3 r13 v2.toNatClampNeg)) (fun V19 => bd (ck T 11 (fR V19 1 this)) (fun r21 => bd (ck T 11 (fR V19 1 this)) (fun r25 => gd (inb v2 (ln T r25)) (gd (inb (v2 - 1) (ln T r21)) (lt (wI V19 r21 (v2 - 1).toNatClampNeg (aI V19 r25 v2.toNatClampNeg)) (fun V31 => Hi_forgetOldest_L2 T this n1 V31 (v2 + 1))))))))))))
def Hi_forgetOldest (T : Tx) (V : Vx) (this : Nat) : Option (Vx) :=
  Hi_forgetOldest_L2 T this FU V 1
def Hi_push (T : Tx) (V : Vx) (this : Nat) (p1 : Int32) (p2 : Int32) : Option (Vx) :=
  bd ((if (fI V 2 this) < 6 then some V else bd (Hi_forgetOldest T V this) (fun V7 => some V7))) (fun (V1 : Vx) => (if (fI V1 2 this) < 0 then some V1 else (if 6 ≤ (fI V1 2 this) then some V1 else bd (ck T 11 (fR V1 0 this)) (fun r10 => gd (inb (fI V1 2 this) (ln T r10)) (lt (wI V1 r10 (fI V1 2 this).toNatClampNeg p1) (fun V15 => bd (ck T 11 (fR V15 1 this)) (fun r17 => gd (inb (fI V15 2 this) (ln T r17)) (lt (wI V15 r17 (fI V15 2 this).toNatClampNeg p2) (fun V22 => lt (sI V22 2 this ((fI V22 2 this) + 1)) (fun V24 => some V24))))))))))
def Hi_lastKind (T : Tx) (V : Vx) (this : Nat) : Option (Int32) :=
  (if (fI V 2 this) ≤ 0 then some (-4) else (if 6 < (fI V 2 this) then some (-4) else bd (ck T 11 (fR V 0 this)) (fun r3 => gd (inb ((fI V 2 this) - 1) (ln T r3)) (some (aI V r3 ((fI V 2 this) - 1).toNatClampNeg)))))
def Hi_lastValue (T : Tx) (V : Vx) (this : Nat) : Option (Int32) :=
  (if (fI V 2 this) ≤ 0 then some (-4) else (if 6 < (fI V 2 this) then some (-4) else bd (ck T 11 (fR V 1 this)) (fun r3 => gd (inb ((fI V 2 this) - 1) (ln T r3)) (some (aI V r3 ((fI V 2 this) - 1).toNatClampNeg)))))
def Hi_drop (T : Tx) (V : Vx) (this : Nat) : Option (Vx) :=
  (if (fI V 2 this) ≤ 0 then some V else lt (sI V 2 this ((fI V 2 this) - 1)) (fun V2 => some V2))
def Le_size (T : Tx) (V : Vx) (this : Nat) : Option (Int32) :=
  some (fI V 101 this)
def Le_isFull (T : Tx) (V : Vx) (this : Nat) : Option (Int32) :=
  bd (ck T 10 (fR V 100 this)) (fun r1 => (if (fI V 101 this) < (nI (ln T r1)) then some 0 else some 1))
def Le_clear (T : Tx) (V : Vx) (this : Nat) : Option (Vx) :=
  lt (sI V 101 this 0) (fun V1 => some V1)
def Le_put (T : Tx) (V : Vx) (this : Nat) (p1 : Int32) : Option (Vx) :=
  (if (fI V 101 this) < 0 then some V else bd (ck T 10 (fR V 100 this)) (fun r2 => (if (nI (ln T r2)) ≤ (fI V 101 this) then some V else bd (ck T 10 (fR V 100 this)) (fun r7 => gd (inb (fI V 101 this) (ln T r7)) (lt (wI V r7 (fI V 101 this).toNatClampNeg (vp_nar .char p1)) (fun V12 => lt (sI V12 101 this ((fI V12 101 this) + 1)) (fun V14 => some V14)))))))
def Le_at (T : Tx) (V : Vx) (this : Nat) (p1 : Int32) : Option (Int32) :=
  (if p1 < 0 then some (-4) else (if (fI V 101 this) ≤ p1 then some (-4) else bd (ck T 10 (fR V 100 this)) (fun r3 => (if (nI (ln T r3)) ≤ p1 then some (-4) else bd (ck T 10 (fR V 100 this)) (fun r8 => gd (inb p1 (ln T r8)) (some (aI V r8 p1.toNatClampNeg)))))))
def Le_find_L6 (T : Tx) (V : Vx) (this : Nat) (p1 : Int32) : Nat → Int32 → Option (Int32)
  | 0, _ => none
  | n3 + 1, v4 => (if (fI V 101 this) ≤ v4 then some (-4) else bd (Le_at T V this v4) (fun r9 => (if r9 = p1 then some v4 else Le_find_L6 T V this p1 n3 (v4 + 1))))
def Le_find (T : Tx) (V : Vx) (this : Nat) (p1 : Int32) (p2 : Int32) : Option (Int32) :=
  lt ((if p2 < 0 then 0 else p2) : Int32) (fun x1 => Le_find_L6 T V this p1 FU x1)
def Le_become_L25 (T : Tx) (this : Nat) (p1 : Nat) (p3 : Int32) : Nat → Vx → Int32 → Option (Int32 × Vx)
  | 0, _, _ => none
  | n9 + 1, V11, v10 => (if p3 ≤ v10 then some (1, V11) else bd (Le_at T V11 p1 v10) (fun r16 => (if r16 < 97 then some (0, V11) else (if r16 ≤ 122 then bd (Le_put T V11 this ((Int32.toUInt32 r16 % 65536).toInt32)) (fun V20 => Le_become_L25 T this p1 p3 n9 V20 (v10 + 1)) else some (0, V11)))))
def Le_become (T : Tx) (V : Vx) (this : Nat) (p1 : Nat) (p2 : Int32) (p3 : Int32) : Option (Int32 × Vx) :=
  bd (Le_clear T V this) (fun V2 => (if p3 ≤ p2 then some (0, V2) else bd (ck T 10 (fR V2 100 this)) (fun r4 => (if (p3 - p2) ≤ (nI (ln T r4)) then Le_become_L25 T this p1 p3 FU V2 p2 else some (0, V2)))))
def Le_isVowelAt (T : Tx) (V : Vx) (this : Nat) (p1 : Int32) : Option (Int32) :=
  (if p1 < 0 then some 0 else (if (fI V 101 this) ≤ p1 then some 0 else bd (ck T 10 (fR V 100 this)) (fun r3 => (if p1 < (nI (ln T r3)) then bd (ck T 10 (fR V 100 this)) (fun r8 => gd (inb p1 (ln T r8)) ((if (aI V r8 p1.toNatClampNeg) = 97 ∨ (aI V r8 p1.toNatClampNeg) = 101 ∨ (aI V r8 p1.toNatClampNeg) = 105 ∨ (aI V r8 p1.toNatClampNeg) = 111 ∨ (aI V r8 p1.toNatClampNeg) = 117 then some 1 else some 0))) else some 0))))
def Le_vowels_L4 (T : Tx) (V : Vx) (this : Nat) : Nat → Int32 → Int32 → Option (Int32)
  | 0, _, _ => none
  | n1 + 1, v2, v3 => (if (fI V 101 this) ≤ v3 then some v2 else bd (Le_isVowelAt T V this v3) (fun r8 => (if r8 = 0 then Le_vowels_L4 T V this n1 v2 (v3 + 1) else Le_vowels_L4 T V this n1 (v2 + 1) (v3 + 1))))
def Le_vowels (T : Tx) (V : Vx) (this : Nat) : Option (Int32) :=
  Le_vowels_L4 T V this FU 0 0
def Le_hasAt_L21 (T : Tx) (V : Vx) (this : Nat) (p1 : Int32) (p2 : Nat) : Nat → Int32 → Option (Int32)
  | 0, _ => none
  | n3 + 1, v4 => (if (fI V 101 p2) ≤ v4 then some 1 else bd (ck T 10 (fR V 100 p2)) (fun r8 => (if (nI (ln T r8)) ≤ v4 then some 1 else bd (ck T 10 (fR V 100 this)) (fun r13 => (if (nI (ln T r13)) ≤ (p1 + v4) then some 1 else bd (ck T 10 (fR V 100 this)) (fun r18 => gd (inb (p1 + v4) (ln T r18)) (bd (ck T 10 (fR V 100 p2)) (fun r23 => gd (inb v4 (ln T r23)) ((if (aI V r18 (p1 + v4).toNatClampNeg) = (aI V r23 v4.toNatClampNeg) then Le_hasAt_L21 T V this p1 p2 n3 (v4 + 1) else some 0))))))))))
def Le_hasAt (T : Tx) (V : Vx) (this : Nat) (p1 : Int32) (p2 : Nat) : Option (Int32) :=
  (if p1 < 0 then some 0 else (if (fI V 101 p2) ≤ ((fI V 101 this) - p1) then Le_hasAt_L21 T V this p1 p2 FU 0 else some 0))
def Lx_clear (T : Tx) (V : Vx) (this : Nat) : Option (Vx) :=
  lt (sI V 202 this 0) (fun V1 => lt (sI V1 203 this 0) (fun V3 => lt (sI V3 204 this 0) (fun V5 => some V5)))
def Lx_signAt (T : Tx) (V : Vx) (this : Nat) (p1 : Int32) : Option ((Option Nat)) :=
  (if p1 < 0 then some none else (if (fI V 202 this) ≤ p1 then some none else (if 12 ≤ p1 then some none else bd (ck T 14 (fR V 200 this)) (fun r4 => gd (inb p1 (ln T r4)) (bd (ck T 6 (aR V r4 p1.toNatClampNeg)) (fun r9 => some (some r9)))))))
def Lx_wordAt (T : Tx) (V : Vx) (this : Nat) (p1 : Int32) : Option ((Option Nat)) :=
  (if p1 < 0 then some none else (if (fI V 203 this) ≤ p1 then some none else (if 8 ≤ p1 then some none else bd (ck T 15 (fR V 201 this)) (fun r4 => gd (inb p1 (ln T r4)) (bd (ck T 7 (aR V r4 p1.toNatClampNeg)) (fun r9 => some (some r9)))))))
def Lx_nextSign (T : Tx) (V : Vx) (this : Nat) : Option ((Option Nat)) :=
  (if (fI V 202 this) < 0 then some none else (if 12 ≤ (fI V 202 this) then some none else bd (ck T 14 (fR V 200 this)) (fun r3 => gd (inb (fI V 202 this) (ln T r3)) (bd (ck T 6 (aR V r3 (fI V 202 this).toNatClampNeg)) (fun r8 => some (some r8))))))
def Lx_nextWord (T : Tx) (V : Vx) (this : Nat) : Option ((Option Nat)) :=
  (if (fI V 203 this) < 0 then some none else (if 8 ≤ (fI V 203 this) then some none else bd (ck T 15 (fR V 201 this)) (fun r3 => gd (inb (fI V 203 this) (ln T r3)) (bd (ck T 7 (aR V r3 (fI V 203 this).toNatClampNeg)) (fun r8 => some (some r8))))))
def Lx_wordOf_L2 (T : Tx) (V : Vx) (this : Nat) (p1 : Int32) (p2 : Nat) : Nat → Int32 → Option (Int32)
  | 0, _ => none
  | n1 + 1, v2 => (if (fI V 203 this) ≤ v2 then some (-4) else bd (Lx_wordAt T V this v2) (fun r7 => (match r7 with | none => Lx_wordOf_L2 T V this p1 p2 n1 (v2 + 1) | some r8 => bd (ck T 7 (some r8)) (fun _ => (if (fI V 701 r8) = p1 then bd (ck T 1 (fR V 700 r8)) (fun r13 => bd (Le_size T V r13) (fun r18 => bd (Le_size T V p2) (fun r20 => (if r18 = r20 then bd (ck T 1 (fR V 700 r8)) (fun r22 => bd (Le_hasAt T V r22 0 p2) (fun r27 => (if r27 = 0 then Lx_wordOf_L2 T V this p1 p2 n1 (v2 + 1) else some v2))) else Lx_wordOf_L2 T V this p1 p2 n1 (v2 + 1))))) else Lx_wordOf_L2 T V this p1 p2 n1 (v2 + 1))))))
def Lx_wordOf (T : Tx) (V : Vx) (this : Nat) (p1 : Int32) (p2 : Nat) : Option (Int32) :=
  Lx_wordOf_L2 T V this p1 p2 FU 0
def Lx_struckSigns_L4 (T : Tx) (V : Vx) (this : Nat) : Nat → Int32 → Int32 → Option (Int32)
  | 0, _, _ => none
  | n1 + 1, v2, v3 => (if (fI V 202 this) ≤ v3 then some v2 else bd (Lx_signAt T V this v3) (fun r8 => (match r8 with | none => Lx_struckSigns_L4 T V this n1 v2 (v3 + 1) | some r9 => bd (ck T 6 (some r9)) (fun _ => (if (fI V 603 r9) = 0 then Lx_struckSigns_L4 T V this n1 v2 (v3 + 1) else Lx_struckSigns_L4 T V this n1 (v2 + 1) (v3 + 1))))))
def Lx_struckSigns (T : Tx) (V : Vx) (this : Nat) : Option (Int32) :=
  Lx_struckSigns_L4 T V this FU 0 0
def Lx_marks (T : Tx) (V : Vx) (this : Nat) (p1 : (Option Nat)) (p2 : Int32) : Option (Int32) :=
  (match p1 with | none => some 0 | some r1 => (if (fI V 601 r1) = 2 then (if (fI V 603 r1) = 0 then (if (fI V 602 r1) = p2 then some 1 else some 0) else some 0) else some 0))
def Lx_lowestMark_L2 (T : Tx) (V : Vx) (this : Nat) (p1 : Int32) : Nat → Int32 → Option (Int32)
  | 0, _ => none
  | n1 + 1, v2 => (if (fI V 202 this) ≤ v2 then some (-4) else bd (Lx_signAt T V this v2) (fun r7 => gd (cko T 6 r7) (bd (Lx_marks T V this r7 p1) (fun r10 => (if r10 = 0 then Lx_lowestMark_L2 T V this p1 n1 (v2 + 1) else some v2)))))
def Lx_lowestMark (T : Tx) (V : Vx) (this : Nat) (p1 : Int32) : Option (Int32) :=
  Lx_lowestMark_L2 T V this p1 FU 0
def Lx_marksOf_L4 (T : Tx) (V : Vx) (this : Nat) (p1 : Int32) : Nat → Int32 → Int32 → Option (Int32)
  | 0, _, _ => none
  | n1 + 1, v2, v3 => (if (fI V 202 this) ≤ v3 then some v2 else bd (Lx_signAt T V this v3) (fun r8 => gd (cko T 6 r8) (bd (Lx_marks T V this r8 p1) (fun r11 => (if r11 = 0 then Lx_marksOf_L4 T V this p1 n1 v2 (v3 + 1) else Lx_marksOf_L4 T V this p1 n1 (v2 + 1) (v3 + 1))))))
def Lx_marksOf (T : Tx) (V : Vx) (this : Nat) (p1 : Int32) : Option (Int32) :=
  Lx_marksOf_L4 T V this p1 FU 0 0
def Ro_size (T : Tx) (V : Vx) (this : Nat) : Option (Int32) :=
  some (fI V 401 this)
def Ro_at (T : Tx) (V : Vx) (this : Nat) (p1 : Int32) : Option (Int32) :=
  (if p1 < 0 then some (-4) else (if (fI V 401 this) ≤ p1 then some (-4) else bd (ck T 11 (fR V 400 this)) (fun r3 => (if (nI (ln T r3)) ≤ p1 then some (-4) else bd (ck T 11 (fR V 400 this)) (fun r8 => gd (inb p1 (ln T r8)) (some (aI V r8 p1.toNatClampNeg)))))))
def Lx_lettersOf_L4 (T : Tx) (V : Vx) (this : Nat) (p1 : Nat) : Nat → Int32 → Int32 → Option (Int32)
  | 0, _, _ => none
  | n1 + 1, v2, v3 => bd (Ro_size T V p1) (fun r7 => (if r7 ≤ v3 then some v2 else bd (Ro_at T V p1 v3) (fun r10 => bd (Lx_signAt T V this r10) (fun r12 => (match r12 with | none => Lx_lettersOf_L4 T V this p1 n1 v2 (v3 + 1) | some r13 => bd (ck T 6 (some r13)) (fun _ => bd (ck T 1 (fR V 600 r13)) (fun r17 => bd (Le_size T V r17) (fun r22 => lt (v2 + r22 : Int32) (fun x23 => Lx_lettersOf_L4 T V this p1 n1 x23 (v3 + 1))))))))))
def Lx_lettersOf (T : Tx) (V : Vx) (this : Nat) (p1 : Nat) : Option (Int32) :=
  Lx_lettersOf_L4 T V this p1 FU 0 0
def Lx_placeBehind_L25 (T : Tx) (V : Vx) (this : Nat) (p1 : Nat) (p3 : Nat) : Nat → Int32 → Option (Int32)
  | 0, _ => none
  | n4 + 1, v5 => bd (ck T 1 (fR V 700 p1)) (fun r8 => bd (Le_size T V r8) (fun r13 => (if r13 ≤ v5 then some (-4) else bd (ck T 1 (fR V 700 p1)) (fun r15 => bd (ck T 1 (fR V 600 p3)) (fun r19 => bd (Le_hasAt T V r15 v5 r19) (fun r24 => (if r24 = 0 then (if (fI V 204 this) = 0 then some (-4) else bd (ck T 1 (fR V 700 p1)) (fun r27 => bd (Le_isVowelAt T V r27 v5) (fun r32 => (if r32 = 0 then some (-4) else Lx_placeBehind_L25 T V this p1 p3 n4 (v5 + 1))))) else bd (ck T 1 (fR V 600 p3)) (fun r34 => bd (Le_size T V r34) (fun r39 => some (v5 + r39))))))))))
def Lx_placeBehind (T : Tx) (V : Vx) (this : Nat) (p1 : Nat) (p2 : Int32) (p3 : Nat) : Option (Int32) :=
  (if p2 < 0 then some (-4) else (if (fI V 603 p3) = 0 then (if (fI V 601 p3) = 2 then some (-4) else Lx_placeBehind_L25 T V this p1 p3 FU p2) else some (-4)))
def Lx_mayEndAt_L2 (T : Tx) (V : Vx) (this : Nat) (p1 : Nat) : Nat → Int32 → Option (Int32)
  | 0, _ => none
  | n1 + 1, v2 => bd (ck T 1 (fR V 700 p1)) (fun r5 => bd (Le_size T V r5) (fun r10 => (if r10 ≤ v2 then some 1 else (if (fI V 204 this) = 0 then some 0 else bd (ck T 1 (fR V 700 p1)) (fun r13 => bd (Le_isVowelAt T V r13 v2) (fun r18 => (if r18 = 0 then some 0 else Lx_mayEndAt_L2 T V this p1 n1 (v2 + 1))))))))
def Lx_mayEndAt (T : Tx) (V : Vx) (this : Nat) (p1 : Nat) (p2 : Int32) : Option (Int32) :=
  Lx_mayEndAt_L2 T V this p1 FU p2
def Pa_digitAt (T : Tx) (V : Vx) (p1 : Nat) (p2 : Int32) (p3 : Int32) : Option (Int32) :=
  bd (Le_at T V p1 p2) (fun r2 => lt (r2 - 48 : Int32) (fun x3 => (if x3 < 0 then some (-4) else (if p3 < x3 then some (-4) else some x3))))
def Pa_keep (T : Tx) (V : Vx) (p1 : Nat) (p2 : Int32) (p3 : Int32) (p4 : Nat) : Option (Vx) :=
  lt (sI V 601 p1 p2) (fun V1 => lt (sI V1 602 p1 p3) (fun V3 => lt (sI V3 603 p1 0) (fun V5 => lt (sI V5 202 p4 ((fI V5 202 p4) + 1)) (fun V7 => some V7))))
def Pa_takesPicture (T : Tx) (V : Vx) (p1 : Nat) (p2 : Int32) (p3 : Int32) (p4 : Nat) : Option (Int32 × Vx) :=
  bd (Lx_nextSign T V p4) (fun r2 => bd (Pa_digitAt T V p1 (p2 + 1) 5) (fun r4 => (match r2 with | none => some (0, V) | some r5 => (if r4 = (-4) then some (0, V) else bd (Le_at T V p1 (p2 + 2)) (fun r8 => (if r8 = 44 then bd (ck T 6 (some r5)) (fun _ => bd (ck T 1 (fR V 600 r5)) (fun r13 => bd2 (Le_become T V r13 p1 (p2 + 3) p3) (fun r19 V18 => (if r19 = 0 then some (0, V18) else bd (Pa_keep T V18 r5 0 r4 p4) (fun V22 => some (1, V22)))))) else some (0, V)))))))
def Pa_takesSound (T : Tx) (V : Vx) (p1 : Nat) (p2 : Int32) (p3 : Int32) (p4 : Nat) : Option (Int32 × Vx) :=
  bd (Lx_nextSign T V p4) (fun r2 => (match r2 with | none => some (0, V) | some r3 => bd (ck T 6 (some r3)) (fun _ => bd (ck T 1 (fR V 600 r3)) (fun r7 => bd2 (Le_become T V r7 p1 (p2 + 1) p3) (fun r13 V12 => (if r13 = 0 then some (0, V12) else bd (Pa_keep T V12 r3 1 0 p4) (fun V16 => some (1, V16))))))))
def Pa_takesMark (T : Tx) (V : Vx) (p1 : Nat) (p2 : Int32) (p3 : Int32) (p4 : Nat) : Option (Int32 × Vx) :=
  bd (Lx_nextSign T V p4) (fun r2 => bd (Pa_digitAt T V p1 (p2 + 1) 5) (fun r4 => (match r2 with | none => some (0, V) | some r5 => (if r4 = (-4) then some (0, V) else (if p3 = (p2 + 2) then bd (ck T 6 (some r5)) (fun _ => bd (ck T 1 (fR V 600 r5)) (fun r11 => bd (Le_clear T V r11) (fun V16 => bd (Pa_keep T V16 r5 2 r4 p4) (fun V18 => some (1, V18))))) else some (0, V))))))
def Pa_takesWord (T : Tx) (V : Vx) (p1 : Nat) (p2 : Int32) (p3 : Int32) (p4 : Nat) : Option (Int32 × Vx) :=
  bd (Lx_nextWord T V p4) (fun r2 => bd (Pa_digitAt T V p1 (p2 + 1) 5) (fun r4 => (match r2 with | none => some (0, V) | some r5 => (if r4 = (-4) then some (0, V) else bd (Le_at T V p1 (p2 + 2)) (fun r8 => (if r8 = 44 then bd (ck T 7 (some r5)) (fun _ => bd (ck T 1 (fR V 700 r5)) (fun r13 => bd2 (Le_become T V r13 p1 (p2 + 3) p3) (fun r19 V18 => (if r19 = 0 then some (0, V18) else bd (ck T 1 (fR V18 700 r5)) (fun r21 => bd (Lx_wordOf T V18 p4 r4 r21) (fun r26 => (if r26 = (-4) then lt (sI V18 701 r5 r4) (fun V28 => lt (sI V28 203 p4 ((fI V28 203 p4) + 1)) (fun V30 => some (1, V30))) else some (0, V18)))))))) else some (0, V)))))))
def Pa_takesLaw (T : Tx) (V : Vx) (p1 : Nat) (p2 : Int32) (p3 : Int32) (p4 : Nat) : Option (Int32 × Vx) :=
  bd (Pa_digitAt T V p1 (p2 + 1) 1) (fun r2 => (if r2 = (-4) then some (0, V) else (if p3 = (p2 + 2) then (if r2 = 1 then lt (sI V 204 p4 1) (fun V8 => some (1, V8)) else lt (sI V 204 p4 0) (fun V6 => some (1, V6))) else some (0, V))))
def Pa_takesItem (T : Tx) (V : Vx) (p1 : Nat) (p2 : Int32) (p3 : Int32) (p4 : Nat) : Option (Int32 × Vx) :=
  bd (Le_at T V p1 p2) (fun r2 => (if r2 = 107 then bd2 (Pa_takesLaw T V p1 p2 p3 p4) (fun r6 V5 => gd (zo r6) (some (r6, V5))) else if r2 = 109 then bd2 (Pa_takesMark T V p1 p2 p3 p4) (fun r12 V11 => gd (zo r12) (some (r12, V11))) else if r2 = 112 then bd2 (Pa_takesPicture T V p1 p2 p3 p4) (fun r18 V17 => gd (zo r18) (some (r18, V17))) else if r2 = 115 then bd2 (Pa_takesSound T V p1 p2 p3 p4) (fun r24 V23 => gd (zo r24) (some (r24, V23))) else if r2 = 119 then bd2 (Pa_takesWord T V p1 p2 p3 p4) (fun r30 V29 => gd (zo r30) (some (r30, V29))) else some (0, V)))
def Pa_firstFault_L6 (T : Tx) (p1 : Nat) (p2 : Nat) : Nat → Vx → Int32 → Option (Int32 × Vx)
  | 0, _, _ => none
  | n3 + 1, V5, v4 => bd (Le_size T V5 p1) (fun r9 => (if r9 ≤ v4 then some ((-4), V5) else bd (Le_find T V5 p1 59 v4) (fun r12 => (if r12 < v4 then some (v4, V5) else bd2 (Pa_takesItem T V5 p1 v4 r12 p2) (fun r16 V15 => (if r16 = 0 then some (v4, V15) else lt (r12 + 1 : Int32) (fun x18 => Pa_firstFault_L6 T p1 p2 n3 V15 x18)))))))
def Pa_firstFault (T : Tx) (V : Vx) (p1 : Nat) (p2 : Nat) : Option (Int32 × Vx) :=
  bd (Lx_clear T V p2) (fun V2 => Pa_firstFault_L6 T p1 p2 FU V2 0)
def Ja_fillI_L5 (T : Tx) (p1 : Nat) (p2 : Int32) (x1 : Int32) : Nat → Vx → Int32 → Option (Vx)
  | 0, _, _ => none
  | n3 + 1, V5, v4 => (if x1 ≤ v4 then some V5 else gd (inb v4 (ln T p1)) (lt (wI V5 p1 v4.toNatClampNeg p2) (fun V10 => Ja_fillI_L5 T p1 p2 x1 n3 V10 (v4 + 1))))
def Ja_fillI (T : Tx) (V : Vx) (p1 : Nat) (p2 : Int32) : Option (Vx) :=
  lt (nI (ln T p1) : Int32) (fun x1 => Ja_fillI_L5 T p1 p2 x1 FU V 0)
def Re_follow_L13 (T : Tx) (this : Nat) (p1 : Nat) (p2 : Int32) (p3 : Nat) (p4 : Int32) (r2 : (Option Nat)) : Nat → Vx → Int32 → Int32 → Option (Vx)
  | 0, _, _, _ => none
  | n3 + 1, V6, v4, v5 => (if 9 < v5 then some V6 else (match r2 with | none => some V6 | some r10 => bd (Ro_at T V6 p3 ((p4 + v5) - 1)) (fun r12 => bd (Lx_signAt T V6 p1 r12) (fun r14 => (match r14 with | none => some V6 | some r15 => bd ((if v5 ≤ 1 then some 0 else bd (ck T 7 (some r10)) (fun _ => gd (cko T 6 (some r15)) (bd (Lx_marks T V6 p1 (some r15) (fI V6 701 r10)) (fun r26 => (if r26 = 0 then some 0 else some 1)))))) (fun (x16 : Int32) => bd ((if x16 = 0 then bd (ck T 7 (some r10)) (fun _ => bd (ck T 6 (some r15)) (fun _ => bd (Lx_placeBehind T V6 p1 r10 v4 r15) (fun r40 => some r40))) else some v4)) (fun (x28 : Int32) => (if 0 ≤ x28 then bd (ck T 7 (some r10)) (fun _ => bd (Lx_mayEndAt T V6 p1 r10 x28) (fun r46 => (if r46 = 0 then (if x16 = 0 then Re_follow_L13 T this p1 p2 p3 p4 r2 n3 V6 x28 (v5 + 1) else some V6) else bd (ck T 11 (fR V6 300 this)) (fun r49 => gd (inb v5 (ln T r49)) (gd (inb v5 (ln T r49)) (lt (wI V6 r49 v5.toNatClampNeg ((aI V6 r49 v5.toNatClampNeg) ||| ((1 : Int32) <<< (p2 &&& 31)))) (fun V55 => (if x16 = 0 then Re_follow_L13 T this p1 p2 p3 p4 r2 n3 V55 x28 (v5 + 1) else some V55)))))))) else some V6))))))))
def Re_follow (T : Tx) (V : Vx) (this : Nat) (p1 : Nat) (p2 : Int32) (p3 : Nat) (p4 : Int32) : Option (Vx) :=
  bd (Lx_wordAt T V p1 p2) (fun r2 => Re_follow_L13 T this p1 p2 p3 p4 r2 FU V 0 1)
def Re_look_L11 (T : Tx) (this : Nat) (p1 : Nat) (p2 : Nat) (p3 : Int32) : Nat → Vx → Int32 → Option (Vx)
  | 0, _, _ => none
  | n7 + 1, V9, v8 => (if (fI V9 203 p1) ≤ v8 then some V9 else bd (Re_follow T V9 this p1 v8 p2 p3) (fun V16 => Re_look_L11 T this p1 p2 p3 n7 V16 (v8 + 1)))
def Re_look (T : Tx) (V : Vx) (this : Nat) (p1 : Nat) (p2 : Nat) (p3 : Int32) : Option (Vx) :=
  bd (ck T 11 (fR V 300 this)) (fun r1 => bd (Ja_fillI T V r1 0) (fun V6 => bd (Re_look_L11 T this p1 p2 p3 FU V6 0) (fun V12 => bd (Ro_at T V12 p2 p3) (fun r19 => bd (Lx_signAt T V12 p1 r19) (fun r21 => (match r21 with | none => some V12 | some r22 => bd (ck T 6 (some r22)) (fun _ => (if (fI V12 601 r22) = 0 then (if (fI V12 603 r22) = 0 then bd (ck T 1 (fR V12 600 r22)) (fun r28 => bd (Lx_wordOf T V12 p1 (fI V12 602 r22) r28) (fun r33 => (if r33 < 0 then some V12 else bd (ck T 11 (fR V12 300 this)) (fun r35 => gd (inb 1 (ln T r35)) (lt (wI V12 r35 (1 : Int32).toNatClampNeg ((1 : Int32) <<< (r33 &&& 31))) (fun V40 => some V40)))))) else some V12) else some V12))))))))
def Re_wordsBy (T : Tx) (V : Vx) (this : Nat) (p1 : Int32) : Option (Int32) :=
  (if p1 < 0 then some 0 else (if 9 < p1 then some 0 else bd (ck T 11 (fR V 300 this)) (fun r3 => gd (inb p1 (ln T r3)) (some (aI V r3 p1.toNatClampNeg)))))
def Ja_fillL_L6 (T : Tx) (p1 : Nat) (p2 : Int64) (x1 : Int32) : Nat → Vx → Int32 → Option (Vx)
  | 0, _, _ => none
  | n3 + 1, V5, v4 => (if x1 ≤ v4 then some V5 else gd (inb v4 (ln T p1)) (lt (wL V5 p1 v4.toNatClampNeg p2) (fun V10 => Ja_fillL_L6 T p1 p2 x1 n3 V10 (v4 + 1))))
def Ja_fillL (T : Tx) (V : Vx) (p1 : Nat) (p2 : Int64) : Option (Vx) :=
  lt (nI (ln T p1) : Int32) (fun x1 => Ja_fillL_L6 T p1 p2 x1 FU V 0)
def Ji_bitCount (T : Tx) (V : Vx) (p1 : Int32) : Option (Int32) :=
  lt (p1 - (((Int32.toUInt32 p1 >>> (Int32.toUInt32 1 &&& Int32.toUInt32 31)).toInt32) &&& 1431655765) : Int32) (fun x1 => lt ((x1 &&& 858993459) + (((Int32.toUInt32 x1 >>> (Int32.toUInt32 2 &&& Int32.toUInt32 31)).toInt32) &&& 858993459) : Int32) (fun x3 => lt ((x3 + ((Int32.toUInt32 x3 >>> (Int32.toUInt32 4 &&& Int32.toUInt32 31)).toInt32)) &&& 252645135 : Int32) (fun x5 => lt (x5 + ((Int32.toUInt32 x5 >>> (Int32.toUInt32 8 &&& Int32.toUInt32 31)).toInt32) : Int32) (fun x7 => lt (x7 + ((Int32.toUInt32 x7 >>> (Int32.toUInt32 16 &&& Int32.toUInt32 31)).toInt32) : Int32) (fun x9 => some (x9 &&& 63))))))
def Re_lowestBit_L2 (T : Tx) (V : Vx) (p1 : Int32) : Nat → Int32 → Option (Int32)
  | 0, _ => none
  | n1 + 1, v2 => (if 8 ≤ v2 then some (-4) else (if ((p1 >>> (v2 &&& 31)) &&& 1) = 0 then Re_lowestBit_L2 T V p1 n1 (v2 + 1) else some v2))
def Re_lowestBit (T : Tx) (V : Vx) (p1 : Int32) : Option (Int32) :=
  Re_lowestBit_L2 T V p1 FU 0
def Re_join_L13 (T : Tx) (this : Nat) (p1 : Int32) (p2 : Int32) : Nat → Vx → Int32 → Option (Vx)
  | 0, _, _ => none
  | n3 + 1, V5, v4 => (if 9 < v4 then some V5 else (if p2 < (p1 + v4) then some V5 else bd (ck T 11 (fR V5 300 this)) (fun r10 => gd (inb v4 (ln T r10)) (lt (aI V5 r10 v4.toNatClampNeg : Int32) (fun x15 => (if x15 = 0 then Re_join_L13 T this p1 p2 n3 V5 (v4 + 1) else bd (ck T 12 (fR V5 301 this)) (fun r18 => gd (inb p1 (ln T r18)) (bd (Ji_bitCount T V5 x15) (fun r24 => bd (ck T 12 (fR V5 301 this)) (fun r25 => gd (inb (p1 + v4) (ln T r25)) (gd (inb p1 (ln T r18)) (lt (wL V5 r18 p1.toNatClampNeg ((aL V5 r18 p1.toNatClampNeg) + ((Int32.toInt64 r24) * (aL V5 r25 (p1 + v4).toNatClampNeg)))) (fun V31 => bd (ck T 11 (fR V31 302 this)) (fun r33 => gd (inb (p1 + v4) (ln T r33)) (bd (ck T 11 (fR V31 302 this)) (fun r38 => gd (inb p1 (ln T r38)) ((if (aI V31 r38 p1.toNatClampNeg) ≤ ((aI V31 r33 (p1 + v4).toNatClampNeg) + 1) then Re_join_L13 T this p1 p2 n3 V31 (v4 + 1) else bd (ck T 11 (fR V31 302 this)) (fun r44 => bd (ck T 11 (fR V31 302 this)) (fun r48 => gd (inb (p1 + v4) (ln T r48)) (gd (inb p1 (ln T r44)) (lt (wI V31 r44 p1.toNatClampNeg ((aI V31 r48 (p1 + v4).toNatClampNeg) + 1)) (fun V54 => bd (ck T 11 (fR V54 303 this)) (fun r56 => gd (inb p1 (ln T r56)) (lt (wI V54 r56 p1.toNatClampNeg v4) (fun V61 => bd (ck T 11 (fR V61 304 this)) (fun r63 => bd (Re_lowestBit T V61 x15) (fun r68 => gd (inb p1 (ln T r63)) (lt (wI V61 r63 p1.toNatClampNeg r68) (fun V70 => Re_join_L13 T this p1 p2 n3 V70 (v4 + 1)))))))))))))))))))))))))))))))
def Re_join (T : Tx) (V : Vx) (this : Nat) (p1 : Int32) (p2 : Int32) : Option (Vx) :=
  (if p1 < 0 then some V else (if p2 ≤ 16 then Re_join_L13 T this p1 p2 FU V 1 else some V))
def Re_plan_L52 (T : Tx) (this : Nat) (p1 : Nat) (p2 : Nat) (x3 : Int32) : Nat → Vx → Int32 → Option (Vx)
  | 0, _, _ => none
  | n34 + 1, V36, v35 => (if v35 < 0 then some V36 else bd (Re_look T V36 this p1 p2 v35) (fun V41 => bd (Re_join T V41 this v35 x3) (fun V43 => Re_plan_L52 T this p1 p2 x3 n34 V43 (v35 + (-1)))))
def Re_plan (T : Tx) (V : Vx) (this : Nat) (p1 : Nat) (p2 : Nat) : Option (Vx) :=
  bd (Ro_size T V p2) (fun r2 => lt ((if 16 < r2 then 16 else r2) : Int32) (fun x3 => bd (ck T 12 (fR V 301 this)) (fun r5 => bd (Ja_fillL T V r5 0) (fun V10 => bd (ck T 11 (fR V10 302 this)) (fun r11 => bd (Ja_fillI T V10 r11 1000) (fun V16 => (if 0 ≤ x3 then bd (ck T 12 (fR V16 301 this)) (fun r18 => gd (inb x3 (ln T r18)) (lt (wL V16 r18 x3.toNatClampNeg 1) (fun V23 => bd (ck T 11 (fR V23 302 this)) (fun r25 => gd (inb x3 (ln T r25)) (lt (wI V23 r25 x3.toNatClampNeg 0) (fun V30 => lt (x3 - 1 : Int32) (fun x32 => Re_plan_L52 T this p1 p2 x3 FU V30 x32))))))) else some V16)))))))
def Re_waysInAll (T : Tx) (V : Vx) (this : Nat) : Option (Int64) :=
  bd (ck T 12 (fR V 301 this)) (fun r1 => gd (inb 0 (ln T r1)) (some (aL V r1 (0 : Int32).toNatClampNeg)))
def Re_fewestWords (T : Tx) (V : Vx) (this : Nat) : Option (Int32) :=
  bd (ck T 11 (fR V 302 this)) (fun r1 => gd (inb 0 (ln T r1)) (some (aI V r1 (0 : Int32).toNatClampNeg)))
def Re_startOf_L33 (T : Tx) (V : Vx) (this : Nat) (p1 : Int32) : Nat → Int32 → Int32 → Option (Int32)
  | 0, _, _ => none
  | n14 + 1, v15, v16 => (if p1 ≤ v16 then some v15 else (if v15 < 0 then some v15 else (if 16 < v15 then some v15 else bd (ck T 11 (fR V 303 this)) (fun r22 => gd (inb v15 (ln T r22)) (lt (v15 + (aI V r22 v15.toNatClampNeg) : Int32) (fun x27 => Re_startOf_L33 T V this p1 n14 x27 (v16 + 1)))))))
def Re_startOf (T : Tx) (V : Vx) (this : Nat) (p1 : Int32) : Option (Int32) :=
  bd (ck T 11 (fR V 302 this)) (fun r1 => gd (inb 0 (ln T r1)) ((if 1000 ≤ (aI V r1 (0 : Int32).toNatClampNeg) then some (-4) else (if p1 < 0 then some (-4) else bd (ck T 11 (fR V 302 this)) (fun r8 => gd (inb 0 (ln T r8)) ((if p1 < (aI V r8 (0 : Int32).toNatClampNeg) then Re_startOf_L33 T V this p1 FU 0 0 else some (-4))))))))
def Re_plannedWord (T : Tx) (V : Vx) (this : Nat) (p1 : Int32) : Option (Int32) :=
  bd (Re_startOf T V this p1) (fun r2 => (if r2 < 0 then some (-4) else (if 16 < r2 then some (-4) else bd (ck T 11 (fR V 304 this)) (fun r5 => gd (inb r2 (ln T r5)) (some (aI V r5 r2.toNatClampNeg))))))
def Re_plannedCut (T : Tx) (V : Vx) (this : Nat) (p1 : Int32) : Option (Int32) :=
  bd (Re_startOf T V this p1) (fun r2 => (if r2 < 0 then some (-4) else (if 16 < r2 then some (-4) else bd (ck T 11 (fR V 303 this)) (fun r5 => gd (inb r2 (ln T r5)) (some (aI V r5 r2.toNatClampNeg))))))
def Ro_isFull (T : Tx) (V : Vx) (this : Nat) : Option (Int32) :=
  bd (ck T 11 (fR V 400 this)) (fun r1 => (if (fI V 401 this) < (nI (ln T r1)) then some 0 else some 1))
def Ro_clear (T : Tx) (V : Vx) (this : Nat) : Option (Vx) :=
  lt (sI V 401 this 0) (fun V1 => some V1)
def Ro_put (T : Tx) (V : Vx) (this : Nat) (p1 : Int32) : Option (Vx) :=
  (if (fI V 401 this) < 0 then some V else bd (ck T 11 (fR V 400 this)) (fun r2 => (if (nI (ln T r2)) ≤ (fI V 401 this) then some V else bd (ck T 11 (fR V 400 this)) (fun r7 => gd (inb (fI V 401 this) (ln T r7)) (lt (wI V r7 (fI V 401 this).toNatClampNeg p1) (fun V12 => lt (sI V12 401 this ((fI V12 401 this) + 1)) (fun V14 => some V14)))))))
def Ro_drop (T : Tx) (V : Vx) (this : Nat) : Option (Int32 × Vx) :=
  bd (Ro_at T V this ((fI V 401 this) - 1)) (fun r2 => (if r2 = (-4) then some (r2, V) else lt (sI V 401 this ((fI V 401 this) - 1)) (fun V4 => some (r2, V4))))
def Ro_has_L2 (T : Tx) (V : Vx) (this : Nat) (p1 : Int32) : Nat → Int32 → Option (Int32)
  | 0, _ => none
  | n1 + 1, v2 => (if (fI V 401 this) ≤ v2 then some 0 else bd (Ro_at T V this v2) (fun r7 => (if r7 = p1 then some 1 else Ro_has_L2 T V this p1 n1 (v2 + 1))))
def Ro_has (T : Tx) (V : Vx) (this : Nat) (p1 : Int32) : Option (Int32) :=
  Ro_has_L2 T V this p1 FU 0
def Ro_copy_L6 (T : Tx) (this : Nat) (p1 : Nat) : Nat → Vx → Int32 → Option (Vx)
  | 0, _, _ => none
  | n3 + 1, V5, v4 => (if (fI V5 401 p1) ≤ v4 then some V5 else bd (Ro_at T V5 p1 v4) (fun r10 => bd (Ro_put T V5 this r10) (fun V12 => Ro_copy_L6 T this p1 n3 V12 (v4 + 1))))
def Ro_copy (T : Tx) (V : Vx) (this : Nat) (p1 : Nat) : Option (Vx) :=
  bd (Ro_clear T V this) (fun V2 => Ro_copy_L6 T this p1 FU V2 0)
def Ro_isSameAs_L15 (T : Tx) (V : Vx) (this : Nat) (p1 : Nat) : Nat → Int32 → Option (Int32)
  | 0, _ => none
  | n2 + 1, v3 => (if (fI V 401 this) ≤ v3 then some 1 else bd (Ro_at T V this v3) (fun r8 => bd (Ro_at T V p1 v3) (fun r10 => (if r8 = r10 then Ro_isSameAs_L15 T V this p1 n2 (v3 + 1) else some 0))))
def Ro_isSameAs (T : Tx) (V : Vx) (this : Nat) (p1 : Nat) : Option (Int32) :=
  (if (fI V 401 this) = (fI V 401 p1) then Ro_isSameAs_L15 T V this p1 FU 0 else some 0)
def Sc_forget (T : Tx) (V : Vx) (this : Nat) : Option (Vx) :=
  lt (sI V 505 this 0) (fun V1 => some V1)
def Sc_weigh_L67 (T : Tx) (this : Nat) (p1 : Nat) (p2 : Nat) (p3 : Int32) (x3 : Int32) : Nat → Vx → Int32 → Option (Vx)
  | 0, _, _ => none
  | n37 + 1, V39, v38 => (if (fI V39 202 p1) ≤ v38 then some V39 else (if x3 = 0 then bd (Lx_signAt T V39 p1 v38) (fun r45 => (match r45 with | none => Sc_weigh_L67 T this p1 p2 p3 x3 n37 V39 (v38 + 1) | some r46 => bd (ck T 6 (some r46)) (fun _ => bd (Lx_placeBehind T V39 p1 p2 p3 r46) (fun r51 => (if r51 < 0 then Sc_weigh_L67 T this p1 p2 p3 x3 n37 V39 (v38 + 1) else (if 8 < r51 then Sc_weigh_L67 T this p1 p2 p3 x3 n37 V39 (v38 + 1) else bd (ck T 11 (fR V39 501 this)) (fun r54 => gd (inb r51 (ln T r54)) ((if (aI V39 r54 r51.toNatClampNeg) < 1000 then bd (ck T 11 (fR V39 501 this)) (fun r60 => gd (inb r51 (ln T r60)) (lt ((aI V39 r60 r51.toNatClampNeg) + 1 : Int32) (fun x65 => bd (ck T 11 (fR V39 502 this)) (fun r67 => gd (inb r51 (ln T r67)) (bd (ck T 1 (fR V39 600 r46)) (fun r72 => bd (Le_size T V39 r72) (fun r77 => lt ((aI V39 r67 r51.toNatClampNeg) + r77 : Int32) (fun x78 => bd (ck T 11 (fR V39 501 this)) (fun r80 => gd (inb p3 (ln T r80)) ((if x65 < (aI V39 r80 p3.toNatClampNeg) then bd (ck T 11 (fR V39 501 this)) (fun r86 => gd (inb p3 (ln T r86)) (lt (wI V39 r86 p3.toNatClampNeg x65) (fun V91 => bd (ck T 11 (fR V91 502 this)) (fun r93 => gd (inb p3 (ln T r93)) (lt (wI V91 r93 p3.toNatClampNeg x78) (fun V98 => bd (ck T 11 (fR V98 503 this)) (fun r100 => gd (inb p3 (ln T r100)) (lt (wI V98 r100 p3.toNatClampNeg v38) (fun V105 => Sc_weigh_L67 T this p1 p2 p3 x3 n37 V105 (v38 + 1)))))))))) else bd (ck T 11 (fR V39 501 this)) (fun r107 => gd (inb p3 (ln T r107)) ((if x65 = (aI V39 r107 p3.toNatClampNeg) then bd (ck T 11 (fR V39 502 this)) (fun r113 => gd (inb p3 (ln T r113)) ((if x78 ≤ (aI V39 r113 p3.toNatClampNeg) then Sc_weigh_L67 T this p1 p2 p3 x3 n37 V39 (v38 + 1) else bd (ck T 11 (fR V39 501 this)) (fun r119 => gd (inb p3 (ln T r119)) (lt (wI V39 r119 p3.toNatClampNeg x65) (fun V124 => bd (ck T 11 (fR V124 502 this)) (fun r126 => gd (inb p3 (ln T r126)) (lt (wI V124 r126 p3.toNatClampNeg x78) (fun V131 => bd (ck T 11 (fR V131 503 this)) (fun r133 => gd (inb p3 (ln T r133)) (lt (wI V131 r133 p3.toNatClampNeg v38) (fun V138 => Sc_weigh_L67 T this p1 p2 p3 x3 n37 V138 (v38 + 1))))))))))))) else Sc_weigh_L67 T this p1 p2 p3 x3 n37 V39 (v38 + 1))))))))))))))) else Sc_weigh_L67 T this p1 p2 p3 x3 n37 V39 (v38 + 1)))))))))) else some V39))
def Sc_weigh (T : Tx) (V : Vx) (this : Nat) (p1 : Nat) (p2 : Nat) (p3 : Int32) : Option (Vx) :=
  (if p3 < 0 then some V else (if p3 ≤ 8 then bd ((if p3 ≤ 0 then some 0 else bd (Lx_mayEndAt T V p1 p2 p3) (fun r9 => (if r9 = 0 then some 0 else some 1)))) (fun (x3 : Int32) => bd (ck T 11 (fR V 501 this)) (fun r11 => bd ((if x3 = 0 then some 1000 else some 0)) (fun (x15 : Int32) => gd (inb p3 (ln T r11)) (lt (wI V r11 p3.toNatClampNeg x15) (fun V21 => bd (ck T 11 (fR V21 502 this)) (fun r23 => gd (inb p3 (ln T r23)) (lt (wI V21 r23 p3.toNatClampNeg 0) (fun V28 => bd (ck T 11 (fR V28 503 this)) (fun r30 => gd (inb p3 (ln T r30)) (lt (wI V28 r30 p3.toNatClampNeg (-4)) (fun V35 => Sc_weigh_L67 T this p1 p2 p3 x3 FU V35 0))))))))))) else some V))
def Sc_findLeast_L9 (T : Tx) (this : Nat) (p1 : Nat) (p2 : Nat) (p3 : Nat) : Nat → Vx → Int32 → Option (Vx)
  | 0, _, _ => none
  | n7 + 1, V9, v8 => (if v8 < 0 then some V9 else bd (Sc_weigh T V9 this p1 p2 v8) (fun V16 => Sc_findLeast_L9 T this p1 p2 p3 n7 V16 (v8 + (-1))))
def Sc_findLeast_L38 (T : Tx) (this : Nat) (p1 : Nat) (p2 : Nat) (p3 : Nat) : Nat → Vx → Int32 → Int32 → Option (Vx)
  | 0, _, _, _ => none
  | n20 + 1, V23, v21, v22 => (if 8 ≤ v22 then some V23 else (if v21 < 0 then some V23 else (if 8 < v21 then some V23 else bd (ck T 11 (fR V23 503 this)) (fun r29 => gd (inb v21 (ln T r29)) (bd (Lx_signAt T V23 p1 (aI V23 r29 v21.toNatClampNeg)) (fun r35 => (match r35 with | none => some V23 | some r36 => bd (ck T 11 (fR V23 503 this)) (fun r37 => gd (inb v21 (ln T r37)) (bd (Ro_put T V23 p3 (aI V23 r37 v21.toNatClampNeg)) (fun V43 => bd (ck T 6 (some r36)) (fun _ => bd (Lx_placeBehind T V43 p1 p2 v21 r36) (fun r48 => Sc_findLeast_L38 T this p1 p2 p3 n20 V43 r48 (v22 + 1)))))))))))))
def Sc_findLeast (T : Tx) (V : Vx) (this : Nat) (p1 : Nat) (p2 : Nat) (p3 : Nat) : Option (Vx) :=
  bd (ck T 1 (fR V 700 p2)) (fun r1 => bd (Le_size T V r1) (fun r6 => bd (Sc_findLeast_L9 T this p1 p2 p3 FU V r6) (fun V12 => bd (Ro_clear T V12 p3) (fun V19 => Sc_findLeast_L38 T this p1 p2 p3 FU V19 0 0))))
def Sc_settle_L10 (T : Tx) (this : Nat) (p1 : Nat) : Nat → Vx → Int32 → Option (Vx)
  | 0, _, _ => none
  | n2 + 1, V4, v3 => (if 8 ≤ v3 then lt (sI V4 505 this 1) (fun V8 => some V8) else bd (Lx_wordAt T V4 p1 v3) (fun r11 => (match r11 with | none => Sc_settle_L10 T this p1 n2 V4 (v3 + 1) | some r12 => bd (ck T 13 (fR V4 500 this)) (fun r13 => gd (inb v3 (ln T r13)) (bd (ck T 4 (aR V4 r13 v3.toNatClampNeg)) (fun r18 => bd (ck T 7 (some r12)) (fun _ => bd (Sc_findLeast T V4 this p1 r12 r18) (fun V26 => Sc_settle_L10 T this p1 n2 V26 (v3 + 1)))))))))
def Sc_settle (T : Tx) (V : Vx) (this : Nat) (p1 : Nat) : Option (Vx) :=
  (if (fI V 505 this) = 0 then Sc_settle_L10 T this p1 FU V 0 else some V)
def Sc_rowOf (T : Tx) (V : Vx) (this : Nat) (p1 : Int32) : Option ((Option Nat)) :=
  (if p1 < 0 then some none else (if 8 ≤ p1 then some none else bd (ck T 13 (fR V 500 this)) (fun r3 => gd (inb p1 (ln T r3)) (bd (ck T 4 (aR V r3 p1.toNatClampNeg)) (fun r8 => some (some r8))))))
def Sc_rowsOfSounds_L67 (T : Tx) (this : Nat) (p1 : Nat) (p2 : Nat) (x28 : Int64) (v16 : Int32) : Nat → Vx → Int32 → Option (Vx)
  | 0, _, _ => none
  | n43 + 1, V45, v44 => (if (fI V45 202 p1) ≤ v44 then some V45 else bd (ck T 12 (fR V45 504 this)) (fun r51 => gd (inb v16 (ln T r51)) ((if (lg_cmp (aL V45 r51 v16.toNatClampNeg) 0) ≤ 0 then some V45 else bd (Lx_signAt T V45 p1 v44) (fun r58 => bd ((match r58 with | none => some (-4) | some r63 => bd (ck T 6 (some r63)) (fun _ => bd (Lx_placeBehind T V45 p1 p2 v16 r63) (fun r68 => some r68)))) (fun (x59 : Int32) => (if x59 < 0 then Sc_rowsOfSounds_L67 T this p1 p2 x28 v16 n43 V45 (v44 + 1) else (if 8 < x59 then Sc_rowsOfSounds_L67 T this p1 p2 x28 v16 n43 V45 (v44 + 1) else bd (ck T 12 (fR V45 504 this)) (fun r71 => gd (inb x59 (ln T r71)) (bd (ck T 12 (fR V45 504 this)) (fun r76 => gd (inb v16 (ln T r76)) (gd (inb x59 (ln T r71)) (lt (wL V45 r71 x59.toNatClampNeg ((aL V45 r71 x59.toNatClampNeg) + (aL V45 r76 v16.toNatClampNeg))) (fun V82 => Sc_rowsOfSounds_L67 T this p1 p2 x28 v16 n43 V82 (v44 + 1)))))))))))))))
def Sc_rowsOfSounds_L20 (T : Tx) (this : Nat) (p1 : Nat) (p2 : Nat) : Nat → Vx → Int64 → Int32 → Option (Int64 × Vx)
  | 0, _, _, _ => none
  | n14 + 1, V17, v15, v16 => bd (ck T 1 (fR V17 700 p2)) (fun r20 => bd (Le_size T V17 r20) (fun r25 => (if r25 < v16 then some (v15, V17) else (if 8 < v16 then some (v15, V17) else bd ((if v16 ≤ 0 then some v15 else bd (Lx_mayEndAt T V17 p1 p2 v16) (fun r34 => (if r34 = 0 then some v15 else bd (ck T 12 (fR V17 504 this)) (fun r36 => gd (inb v16 (ln T r36)) (lt (v15 + (aL V17 r36 v16.toNatClampNeg) : Int64) (fun x41 => some x41))))))) (fun (x28 : Int64) => bd (Sc_rowsOfSounds_L67 T this p1 p2 x28 v16 FU V17 0) (fun V48 => Sc_rowsOfSounds_L20 T this p1 p2 n14 V48 x28 (v16 + 1)))))))
def Sc_rowsOfSounds (T : Tx) (V : Vx) (this : Nat) (p1 : Nat) (p2 : Nat) : Option (Int64 × Vx) :=
  bd (ck T 12 (fR V 504 this)) (fun r1 => bd (Ja_fillL T V r1 0) (fun V6 => bd (ck T 12 (fR V6 504 this)) (fun r7 => gd (inb 0 (ln T r7)) (lt (wL V6 r7 (0 : Int32).toNatClampNeg 1) (fun V12 => Sc_rowsOfSounds_L20 T this p1 p2 FU V12 0 0)))))
def RS_write (T : Tx) (V : Vx) (this : Nat) (p1 : Int32) : Option (Int32 × Vx) :=
  (if p1 < 32 then some ((-1), V) else (if p1 ≤ 126 then bd (ck T 1 (fR V 800 this)) (fun r3 => bd (Le_isFull T V r3) (fun r8 => (if r8 = 0 then bd (ck T 1 (fR V 800 this)) (fun r10 => bd (Le_put T V r10 ((Int32.toUInt32 p1 % 65536).toInt32)) (fun V15 => bd (ck T 1 (fR V15 800 this)) (fun r16 => bd (Le_size T V15 r16) (fun r21 => some (r21, V15))))) else some ((-3), V)))) else some ((-1), V)))
def RS_wipe (T : Tx) (V : Vx) (this : Nat) : Option (Int32 × Vx) :=
  bd (ck T 1 (fR V 800 this)) (fun r1 => bd (Le_size T V r1) (fun r6 => bd (ck T 1 (fR V 800 this)) (fun r7 => bd (Le_clear T V r7) (fun V12 => some (r6, V12)))))
def RS_fault (T : Tx) (V : Vx) (this : Nat) : Option (Int32 × Vx) :=
  bd (ck T 1 (fR V 800 this)) (fun r1 => bd (ck T 2 (fR V 807 this)) (fun r5 => bd2 (Pa_firstFault T V r1 r5) (fun r11 V10 => some (r11, V10))))
def RS_lay (T : Tx) (V : Vx) (this : Nat) : Option (Int32 × Vx) :=
  bd (ck T 1 (fR V 800 this)) (fun r1 => bd (ck T 2 (fR V 807 this)) (fun r5 => bd2 (Pa_firstFault T V r1 r5) (fun r11 V10 => (if r11 = (-4) then bd (ck T 2 (fR V10 807 this)) (fun r13 => (if (fI V10 202 r13) = 0 then some ((-2), V10) else bd (ck T 2 (fR V10 807 this)) (fun r18 => (if (fI V10 203 r18) = 0 then some ((-2), V10) else bd (ck T 2 (fR V10 806 this)) (fun r23 => bd (ck T 2 (fR V10 807 this)) (fun r27 => lt (sR V10 806 this (some r27)) (fun V31 => lt (sR V31 807 this (some r23)) (fun V33 => bd (ck T 4 (fR V33 801 this)) (fun r35 => bd (Ro_clear T V33 r35) (fun V40 => bd (ck T 0 (fR V40 803 this)) (fun r41 => bd (Hi_clear T V40 r41) (fun V46 => bd (ck T 5 (fR V46 804 this)) (fun r47 => bd (Sc_forget T V46 r47) (fun V52 => bd (ck T 2 (fR V52 806 this)) (fun r53 => some ((fI V52 202 r53), V52)))))))))))))))) else some ((-2), V10)))))
def RS_turn (T : Tx) (V : Vx) (this : Nat) (p1 : (Option Nat)) : Option (Vx) :=
  (match p1 with | none => some V | some r1 => bd ((if (fI V 603 r1) = 0 then some 1 else some 0)) (fun (x3 : Int32) => gd (zo x3) (lt (sI V 603 r1 x3) (fun V8 => bd (ck T 5 (fR V8 804 this)) (fun r11 => bd (Sc_forget T V8 r11) (fun V16 => some V16))))))
def RS_strike (T : Tx) (V : Vx) (this : Nat) (p1 : Int32) (p2 : Int32) : Option (Int32 × Vx) :=
  bd (ck T 2 (fR V 806 this)) (fun r1 => bd (Lx_signAt T V r1 p1) (fun r6 => (match r6 with | none => some ((-1), V) | some r7 => (if p2 < 0 then some ((-1), V) else (if p2 ≤ 1 then bd (ck T 6 (some r7)) (fun _ => bd ((if p2 = 1 then some 1 else some 0)) (fun (x13 : Int32) => (if (fI V 603 r7) = x13 then some ((-2), V) else bd (RS_turn T V this (some r7)) (fun V20 => bd (ck T 0 (fR V20 803 this)) (fun r21 => bd (Hi_push T V20 r21 0 p1) (fun V26 => bd (ck T 2 (fR V26 806 this)) (fun r27 => bd (Lx_struckSigns T V26 r27) (fun r32 => some (r32, V26))))))))) else some ((-1), V))))))
def RS_lawNumber (T : Tx) (V : Vx) (this : Nat) : Option (Int32) :=
  bd (ck T 2 (fR V 806 this)) (fun r1 => (if (fI V 204 r1) = 0 then some 0 else some 1))
def RS_turnLaw (T : Tx) (V : Vx) (this : Nat) : Option (Vx) :=
  bd (ck T 2 (fR V 806 this)) (fun r1 => bd (ck T 2 (fR V 806 this)) (fun r5 => bd ((if (fI V 204 r5) = 0 then some 1 else some 0)) (fun (x9 : Int32) => gd (zo x9) (lt (sI V 204 r1 x9) (fun V14 => bd (ck T 5 (fR V14 804 this)) (fun r17 => bd (Sc_forget T V14 r17) (fun V22 => some V22)))))))
def RS_law (T : Tx) (V : Vx) (this : Nat) (p1 : Int32) : Option (Int32 × Vx) :=
  (if p1 < 0 then some ((-1), V) else (if p1 ≤ 1 then bd (ck T 2 (fR V 806 this)) (fun r3 => bd ((if p1 = 1 then some 1 else some 0)) (fun (x7 : Int32) => (if (fI V 204 r3) = x7 then some ((-2), V) else bd (RS_lawNumber T V this) (fun r14 => bd (RS_turnLaw T V this) (fun V16 => bd (ck T 0 (fR V16 803 this)) (fun r17 => bd (Hi_push T V16 r17 1 r14) (fun V22 => some (r14, V22)))))))) else some ((-1), V)))
def RS_carve (T : Tx) (V : Vx) (this : Nat) (p1 : Int32) : Option (Int32 × Vx) :=
  bd (ck T 2 (fR V 806 this)) (fun r1 => bd (Lx_signAt T V r1 p1) (fun r6 => (match r6 with | none => some ((-1), V) | some r7 => bd (ck T 4 (fR V 801 this)) (fun r8 => bd (Ro_isFull T V r8) (fun r13 => (if r13 = 0 then bd (ck T 4 (fR V 801 this)) (fun r15 => bd (Ro_put T V r15 p1) (fun V20 => bd (ck T 0 (fR V20 803 this)) (fun r21 => bd (Hi_push T V20 r21 2 p1) (fun V26 => bd (ck T 4 (fR V26 801 this)) (fun r27 => bd (Ro_size T V26 r27) (fun r32 => some (r32, V26))))))) else some ((-3), V)))))))
def RS_chip (T : Tx) (V : Vx) (this : Nat) : Option (Int32 × Vx) :=
  bd (ck T 4 (fR V 801 this)) (fun r1 => bd (Ro_size T V r1) (fun r6 => (if r6 = 0 then some ((-2), V) else bd (ck T 4 (fR V 801 this)) (fun r8 => bd2 (Ro_drop T V r8) (fun r14 V13 => bd (ck T 0 (fR V13 803 this)) (fun r15 => bd (Hi_push T V13 r15 3 r14) (fun V20 => some (r14, V20))))))))
def RS_undo (T : Tx) (V : Vx) (this : Nat) : Option (Int32 × Vx) :=
  bd (ck T 0 (fR V 803 this)) (fun r1 => bd (Hi_size T V r1) (fun r6 => (if r6 = 0 then some ((-2), V) else bd (ck T 0 (fR V 803 this)) (fun r8 => bd (Hi_lastValue T V r8) (fun r13 => bd (ck T 0 (fR V 803 this)) (fun r14 => bd (Hi_lastKind T V r14) (fun r19 => bd ((if r19 = 0 then bd (ck T 2 (fR V 806 this)) (fun r25 => bd (Lx_signAt T V r25 r13) (fun r30 => gd (cko T 6 r30) (bd (RS_turn T V this r30) (fun V33 => some V33)))) else if r19 = 1 then bd (RS_turnLaw T V this) (fun V37 => some V37) else if r19 = 2 then bd (ck T 4 (fR V 801 this)) (fun r40 => bd2 (Ro_drop T V r40) (fun r46 V45 => some V45)) else bd (ck T 4 (fR V 801 this)) (fun r48 => bd (Ro_put T V r48 r13) (fun V53 => some V53)))) (fun (V20 : Vx) => bd (ck T 0 (fR V20 803 this)) (fun r55 => bd (Hi_drop T V20 r55) (fun V60 => bd (ck T 0 (fR V60 803 this)) (fun r61 => bd (Hi_size T V60 r61) (fun r66 => some (r66, V60)))))))))))))
def RS_leastWritingsWith_L15 (T : Tx) (V10 : Vx) (this : Nat) (p1 : Int32) : Nat → Int32 → Int32 → Option (Int32 × Vx)
  | 0, _, _ => none
  | n11 + 1, v12, v13 => bd (ck T 2 (fR V10 806 this)) (fun r16 => (if (fI V10 203 r16) ≤ v13 then some (v12, V10) else bd (ck T 5 (fR V10 804 this)) (fun r21 => bd (Sc_rowOf T V10 r21 v13) (fun r26 => (match r26 with | none => RS_leastWritingsWith_L15 T V10 this p1 n11 v12 (v13 + 1) | some r27 => bd (ck T 4 (some r27)) (fun _ => bd (Ro_has T V10 r27 p1) (fun r32 => (if r32 = 0 then RS_leastWritingsWith_L15 T V10 this p1 n11 v12 (v13 + 1) else RS_leastWritingsWith_L15 T V10 this p1 n11 (v12 + 1) (v13 + 1)))))))))
def RS_leastWritingsWith (T : Tx) (V : Vx) (this : Nat) (p1 : Int32) : Option (Int32 × Vx) :=
  bd (ck T 5 (fR V 804 this)) (fun r1 => bd (ck T 2 (fR V 806 this)) (fun r5 => bd (Sc_settle T V r1 r5) (fun V10 => RS_leastWritingsWith_L15 T V10 this p1 FU 0 0)))
def RS_sign (T : Tx) (V : Vx) (this : Nat) (p1 : Int32) (p2 : Int32) : Option (Int32 × Vx) :=
  bd (ck T 2 (fR V 806 this)) (fun r1 => bd (Lx_signAt T V r1 p1) (fun r6 => (match r6 with | none => some ((-1), V) | some r7 => (if p2 = 0 then bd (ck T 6 (some r7)) (fun _ => some ((fI V 601 r7), V)) else if p2 = 1 then bd (ck T 6 (some r7)) (fun _ => (if (fI V 601 r7) = 1 then some ((-4), V) else some ((fI V 602 r7), V))) else if p2 = 2 then bd (ck T 6 (some r7)) (fun _ => bd (ck T 1 (fR V 600 r7)) (fun r23 => bd (Le_size T V r23) (fun r28 => some (r28, V)))) else if p2 = 3 then bd (ck T 6 (some r7)) (fun _ => (if (fI V 603 r7) = 0 then some (0, V) else some (1, V))) else if p2 = 4 then bd2 (RS_leastWritingsWith T V this p1) (fun r39 V38 => some (r39, V38)) else some ((-1), V)))))
def RS_clearness (T : Tx) (V : Vx) (this : Nat) (p1 : Int32) : Option (Int32 × Vx) :=
  bd (ck T 5 (fR V 804 this)) (fun r1 => bd (Sc_rowOf T V r1 p1) (fun r6 => bd (ck T 2 (fR V 806 this)) (fun r7 => bd (Lx_wordAt T V r7 p1) (fun r12 => (match r6 with | none => some (0, V) | some r13 => (match r12 with | none => some (0, V) | some r14 => bd (ck T 4 (some r13)) (fun _ => bd (Ro_size T V r13) (fun r19 => (if r19 = 0 then some (0, V) else lt ((1 : Int32) <<< (p1 &&& 31) : Int32) (fun x21 => bd (ck T 3 (fR V 805 this)) (fun r23 => bd (ck T 2 (fR V 806 this)) (fun r27 => bd (Re_look T V r23 r27 r13 0) (fun V32 => bd (ck T 3 (fR V32 805 this)) (fun r33 => bd (Ro_size T V32 r13) (fun r38 => bd (Re_wordsBy T V32 r33 r38) (fun r40 => (if r40 = x21 then some (1, V32) else bd (ck T 2 (fR V32 806 this)) (fun r42 => bd (ck T 7 (some r14)) (fun _ => bd (Lx_lowestMark T V32 r42 (fI V32 701 r14)) (fun r50 => (if r50 = (-4) then some (0, V32) else bd (ck T 4 (fR V32 802 this)) (fun r52 => bd (Ro_copy T V32 r52 r13) (fun V57 => bd (ck T 4 (fR V57 802 this)) (fun r58 => bd (Ro_put T V57 r58 r50) (fun V63 => bd (ck T 3 (fR V63 805 this)) (fun r64 => bd (ck T 2 (fR V63 806 this)) (fun r68 => bd (ck T 4 (fR V63 802 this)) (fun r72 => bd (Re_look T V63 r64 r68 r72 0) (fun V77 => bd (ck T 3 (fR V77 805 this)) (fun r78 => bd (ck T 4 (fR V77 802 this)) (fun r82 => bd (Ro_size T V77 r82) (fun r87 => bd (Re_wordsBy T V77 r78 r87) (fun r89 => (if r89 = x21 then some (2, V77) else some (0, V77)))))))))))))))))))))))))))))))))))
def RS_mixedWith_L28 (T : Tx) (V : Vx) (this : Nat) (p1 : Int32) (r7 : Nat) : Nat → Int32 → Int32 → Option (Int32)
  | 0, _, _ => none
  | n14 + 1, v15, v16 => bd (ck T 2 (fR V 806 this)) (fun r19 => (if (fI V 203 r19) ≤ v16 then some v15 else bd (ck T 5 (fR V 804 this)) (fun r24 => bd (Sc_rowOf T V r24 v16) (fun r29 => (if v16 = p1 then RS_mixedWith_L28 T V this p1 r7 n14 v15 (v16 + 1) else (match r29 with | none => RS_mixedWith_L28 T V this p1 r7 n14 v15 (v16 + 1) | some r31 => bd (ck T 4 (some r31)) (fun _ => bd (Ro_isSameAs T V r7 r31) (fun r36 => (if r36 = 0 then RS_mixedWith_L28 T V this p1 r7 n14 v15 (v16 + 1) else RS_mixedWith_L28 T V this p1 r7 n14 (v15 + 1) (v16 + 1))))))))))
def RS_mixedWith (T : Tx) (V : Vx) (this : Nat) (p1 : Int32) (p2 : Int32) : Option (Int32) :=
  bd (ck T 5 (fR V 804 this)) (fun r1 => bd (Sc_rowOf T V r1 p1) (fun r6 => (match r6 with | none => some 0 | some r7 => bd (ck T 4 (some r7)) (fun _ => bd (Ro_size T V r7) (fun r12 => (if r12 = 0 then some 0 else RS_mixedWith_L28 T V this p1 r7 FU 0 p2))))))
def RS_word (T : Tx) (V : Vx) (this : Nat) (p1 : Int32) (p2 : Int32) : Option (Int32 × Vx) :=
  bd (ck T 2 (fR V 806 this)) (fun r1 => bd (Lx_wordAt T V r1 p1) (fun r6 => (match r6 with | none => some ((-1), V) | some r7 => (if p2 = 0 then bd (ck T 7 (some r7)) (fun _ => some ((fI V 701 r7), V)) else if p2 = 1 then bd (ck T 7 (some r7)) (fun _ => bd (ck T 1 (fR V 700 r7)) (fun r17 => bd (Le_size T V r17) (fun r22 => some (r22, V)))) else if p2 = 2 then bd (ck T 7 (some r7)) (fun _ => bd (ck T 1 (fR V 700 r7)) (fun r28 => bd (Le_vowels T V r28) (fun r33 => some (r33, V)))) else if p2 = 3 then bd (ck T 5 (fR V 804 this)) (fun r36 => bd (ck T 2 (fR V 806 this)) (fun r40 => bd (Sc_settle T V r36 r40) (fun V45 => bd2 (RS_clearness T V45 this p1) (fun r48 V47 => some (r48, V47))))) else if p2 = 4 then bd (ck T 5 (fR V 804 this)) (fun r51 => bd (ck T 2 (fR V 806 this)) (fun r55 => bd (Sc_settle T V r51 r55) (fun V60 => bd (RS_mixedWith T V60 this p1 0) (fun r62 => some (r62, V60))))) else some ((-1), V)))))
def RS_least (T : Tx) (V : Vx) (this : Nat) (p1 : Int32) (p2 : Int32) : Option (Int32 × Vx) :=
  bd (ck T 2 (fR V 806 this)) (fun r1 => bd (Lx_wordAt T V r1 p1) (fun r6 => (match r6 with | none => some ((-1), V) | some r7 => (if (-2) ≤ p2 then bd (ck T 5 (fR V 804 this)) (fun r9 => bd (ck T 2 (fR V 806 this)) (fun r13 => bd (Sc_settle T V r9 r13) (fun V18 => bd (ck T 5 (fR V18 804 this)) (fun r19 => bd (Sc_rowOf T V18 r19 p1) (fun r24 => (match r24 with | none => some ((-4), V18) | some r25 => bd (ck T 4 (some r25)) (fun _ => bd (Ro_size T V18 r25) (fun r30 => (if r30 = 0 then some ((-4), V18) else (if p2 = (-1) then bd (Ro_size T V18 r25) (fun r52 => some (r52, V18)) else (if p2 = (-2) then bd (ck T 7 (some r7)) (fun _ => bd (ck T 1 (fR V18 700 r7)) (fun r39 => bd (Le_size T V18 r39) (fun r44 => bd (ck T 2 (fR V18 806 this)) (fun r45 => bd (Lx_lettersOf T V18 r45 r25) (fun r50 => some ((r44 - r50), V18)))))) else bd (Ro_at T V18 r25 p2) (fun r35 => some (r35, V18))))))))))))) else some ((-1), V)))))
def RS_mark (T : Tx) (V : Vx) (this : Nat) (p1 : Int32) : Option (Int32 × Vx) :=
  bd (ck T 2 (fR V 806 this)) (fun r1 => bd (Lx_wordAt T V r1 p1) (fun r6 => (match r6 with | none => some ((-1), V) | some r7 => bd (ck T 5 (fR V 804 this)) (fun r8 => bd (ck T 2 (fR V 806 this)) (fun r12 => bd (Sc_settle T V r8 r12) (fun V17 => bd2 (RS_clearness T V17 this p1) (fun r20 V19 => (if r20 = 2 then bd (ck T 2 (fR V19 806 this)) (fun r22 => bd (ck T 7 (some r7)) (fun _ => bd (Lx_lowestMark T V19 r22 (fI V19 701 r7)) (fun r30 => some (r30, V19)))) else some ((-4), V19)))))))))
def RS_writings (T : Tx) (V : Vx) (this : Nat) (p1 : Int32) : Option (Int64 × Vx) :=
  bd (ck T 2 (fR V 806 this)) (fun r1 => bd (Lx_wordAt T V r1 p1) (fun r6 => (match r6 with | none => some ((-1), V) | some r7 => bd (ck T 5 (fR V 804 this)) (fun r8 => bd (ck T 2 (fR V 806 this)) (fun r12 => bd (ck T 7 (some r7)) (fun _ => bd2 (Sc_rowsOfSounds T V r8 r12 r7) (fun r21 V20 => bd (ck T 2 (fR V20 806 this)) (fun r22 => bd (Lx_marksOf T V20 r22 (fI V20 701 r7)) (fun r27 => some ((r21 * (Int32.toInt64 (1 + r27))), V20))))))))))
def RS_carved (T : Tx) (V : Vx) (this : Nat) (p1 : Int32) : Option (Int32) :=
  (if 0 ≤ p1 then bd (ck T 4 (fR V 801 this)) (fun r2 => bd (Ro_at T V r2 p1) (fun r7 => some r7)) else some (-1))
def RS_read (T : Tx) (V : Vx) (this : Nat) (p1 : Int32) (p2 : Int32) : Option (Int32 × Vx) :=
  (if p1 < 0 then some ((-1), V) else (if p2 < 1 then some ((-1), V) else (if p2 ≤ 9 then bd (ck T 4 (fR V 801 this)) (fun r4 => bd (Ro_size T V r4) (fun r9 => (if p1 ≤ (r9 - p2) then bd (ck T 3 (fR V 805 this)) (fun r11 => bd (ck T 2 (fR V 806 this)) (fun r15 => bd (ck T 4 (fR V 801 this)) (fun r19 => bd (Re_look T V r11 r15 r19 p1) (fun V24 => bd (ck T 3 (fR V24 805 this)) (fun r25 => bd (Re_wordsBy T V24 r25 p2) (fun r30 => some (r30, V24))))))) else some ((-2), V)))) else some ((-1), V))))
def RS_readings (T : Tx) (V : Vx) (this : Nat) : Option (Int64 × Vx) :=
  bd (ck T 3 (fR V 805 this)) (fun r1 => bd (ck T 2 (fR V 806 this)) (fun r5 => bd (ck T 4 (fR V 801 this)) (fun r9 => bd (Re_plan T V r1 r5 r9) (fun V14 => bd (ck T 3 (fR V14 805 this)) (fun r15 => bd (Re_waysInAll T V14 r15) (fun r20 => some (r20, V14)))))))
def RS_reading (T : Tx) (V : Vx) (this : Nat) (p1 : Int32) : Option (Int32 × Vx) :=
  (if (-1) ≤ p1 then bd (ck T 3 (fR V 805 this)) (fun r2 => bd (ck T 2 (fR V 806 this)) (fun r6 => bd (ck T 4 (fR V 801 this)) (fun r10 => bd (Re_plan T V r2 r6 r10) (fun V15 => bd (ck T 3 (fR V15 805 this)) (fun r16 => bd (Re_fewestWords T V15 r16) (fun r21 => (if r21 < 1000 then (if p1 = (-1) then some (r21, V15) else bd (ck T 3 (fR V15 805 this)) (fun r24 => bd (Re_plannedWord T V15 r24 p1) (fun r29 => some (r29, V15)))) else some ((-4), V15)))))))) else some ((-1), V))
def RS_cut (T : Tx) (V : Vx) (this : Nat) (p1 : Int32) : Option (Int32 × Vx) :=
  (if 0 ≤ p1 then bd (ck T 3 (fR V 805 this)) (fun r2 => bd (ck T 2 (fR V 806 this)) (fun r6 => bd (ck T 4 (fR V 801 this)) (fun r10 => bd (Re_plan T V r2 r6 r10) (fun V15 => bd (ck T 3 (fR V15 805 this)) (fun r16 => bd (Re_plannedCut T V15 r16 p1) (fun r21 => some (r21, V15))))))) else some ((-1), V))
def RS_writtenWords_L15 (T : Tx) (V10 : Vx) (this : Nat) : Nat → Int32 → Int32 → Option (Int32 × Vx)
  | 0, _, _ => none
  | n11 + 1, v12, v13 => bd (ck T 2 (fR V10 806 this)) (fun r16 => (if (fI V10 203 r16) ≤ v13 then some (v12, V10) else bd (ck T 5 (fR V10 804 this)) (fun r21 => bd (Sc_rowOf T V10 r21 v13) (fun r26 => (match r26 with | none => RS_writtenWords_L15 T V10 this n11 v12 (v13 + 1) | some r27 => bd (ck T 4 (some r27)) (fun _ => bd (Ro_size T V10 r27) (fun r32 => (if r32 ≤ 0 then RS_writtenWords_L15 T V10 this n11 v12 (v13 + 1) else RS_writtenWords_L15 T V10 this n11 (v12 + 1) (v13 + 1)))))))))
def RS_writtenWords (T : Tx) (V : Vx) (this : Nat) : Option (Int32 × Vx) :=
  bd (ck T 5 (fR V 804 this)) (fun r1 => bd (ck T 2 (fR V 806 this)) (fun r5 => bd (Sc_settle T V r1 r5) (fun V10 => RS_writtenWords_L15 T V10 this FU 0 0)))
def RS_clearWords_L15 (T : Tx) (this : Nat) : Nat → Vx → Int32 → Int32 → Option (Int32 × Vx)
  | 0, _, _, _ => none
  | n11 + 1, V14, v12, v13 => bd (ck T 2 (fR V14 806 this)) (fun r17 => (if (fI V14 203 r17) ≤ v13 then some (v12, V14) else bd2 (RS_clearness T V14 this v13) (fun r24 V23 => (if r24 = 0 then RS_clearWords_L15 T this n11 V23 v12 (v13 + 1) else RS_clearWords_L15 T this n11 V23 (v12 + 1) (v13 + 1)))))
def RS_clearWords (T : Tx) (V : Vx) (this : Nat) : Option (Int32 × Vx) :=
  bd (ck T 5 (fR V 804 this)) (fun r1 => bd (ck T 2 (fR V 806 this)) (fun r5 => bd (Sc_settle T V r1 r5) (fun V10 => RS_clearWords_L15 T this FU V10 0 0)))
def RS_mixedPairs_L15 (T : Tx) (V10 : Vx) (this : Nat) : Nat → Int32 → Int32 → Option (Int32 × Vx)
  | 0, _, _ => none
  | n11 + 1, v12, v13 => bd (ck T 2 (fR V10 806 this)) (fun r16 => (if (fI V10 203 r16) ≤ v13 then some (v12, V10) else bd (RS_mixedWith T V10 this v13 (v13 + 1)) (fun r22 => lt (v12 + r22 : Int32) (fun x23 => RS_mixedPairs_L15 T V10 this n11 x23 (v13 + 1)))))
def RS_mixedPairs (T : Tx) (V : Vx) (this : Nat) : Option (Int32 × Vx) :=
  bd (ck T 5 (fR V 804 this)) (fun r1 => bd (ck T 2 (fR V 806 this)) (fun r5 => bd (Sc_settle T V r1 r5) (fun V10 => RS_mixedPairs_L15 T V10 this FU 0 0)))
def RS_count (T : Tx) (V : Vx) (this : Nat) (p1 : Int32) : Option (Int32 × Vx) :=
  (if p1 = 0 then bd (ck T 2 (fR V 806 this)) (fun r2 => some ((fI V 202 r2), V)) else if p1 = 1 then bd (ck T 2 (fR V 806 this)) (fun r8 => some ((fI V 203 r8), V)) else if p1 = 2 then bd (RS_lawNumber T V this) (fun r15 => some (r15, V)) else if p1 = 3 then bd (ck T 2 (fR V 806 this)) (fun r18 => bd (Lx_struckSigns T V r18) (fun r23 => some (r23, V))) else if p1 = 4 then bd (ck T 4 (fR V 801 this)) (fun r26 => bd (Ro_size T V r26) (fun r31 => some (r31, V))) else if p1 = 5 then bd2 (RS_writtenWords T V this) (fun r36 V35 => some (r36, V35)) else if p1 = 6 then bd2 (RS_clearWords T V this) (fun r41 V40 => some (r41, V40)) else if p1 = 7 then bd2 (RS_mixedPairs T V this) (fun r46 V45 => some (r46, V45)) else if p1 = 8 then bd (ck T 0 (fR V 803 this)) (fun r49 => bd (Hi_size T V r49) (fun r54 => some (r54, V))) else if p1 = 9 then bd (ck T 1 (fR V 800 this)) (fun r57 => bd (Le_size T V r57) (fun r62 => some (r62, V))) else some ((-1), V))
def Mo_sign4 (T : Tx) (V : Vx) (this : Nat) (p1 : Int32) (p2 : Int32) (p3 : Int32) (p4 : Int32) (p5 : Int32) (p6 : Int32) : Option (Vx) :=
  bd (ck T 11 (fR V 903 this)) (fun r1 => gd (inb 164 (ln T r1)) (lt (7 * (aI V r1 (164 : Int32).toNatClampNeg) : Int32) (fun x6 => bd (ck T 11 (fR V 903 this)) (fun r8 => gd (inb x6 (ln T r8)) (lt (wI V r8 x6.toNatClampNeg p1) (fun V13 => bd (ck T 11 (fR V13 903 this)) (fun r15 => gd (inb (x6 + 1) (ln T r15)) (lt (wI V13 r15 (x6 + 1).toNatClampNeg p2) (fun V20 => bd (ck T 11 (fR V20 903 this)) (fun r22 => bd ((if p6 ≤ 0 then (if p5 ≤ 0 then (if p4 ≤ 0 then (if p3 ≤ 0 then some 0 else some 1) else some 2) else some 3) else some 4)) (fun (x26 : Int32) => gd (inb (x6 + 2) (ln T r22)) (lt (wI V20 r22 (x6 + 2).toNatClampNeg x26) (fun V35 => bd (ck T 11 (fR V35 903 this)) (fun r37 => gd (inb (x6 + 3) (ln T r37)) (lt (wI V35 r37 (x6 + 3).toNatClampNeg p3) (fun V42 => bd (ck T 11 (fR V42 903 this)) (fun r44 => gd (inb (x6 + 4) (ln T r44)) (lt (wI V42 r44 (x6 + 4).toNatClampNeg p4) (fun V49 => bd (ck T 11 (fR V49 903 this)) (fun r51 => gd (inb (x6 + 5) (ln T r51)) (lt (wI V49 r51 (x6 + 5).toNatClampNeg p5) (fun V56 => bd (ck T 11 (fR V56 903 this)) (fun r58 => gd (inb (x6 + 6) (ln T r58)) (lt (wI V56 r58 (x6 + 6).toNatClampNeg p6) (fun V63 => bd (ck T 11 (fR V63 903 this)) (fun r65 => gd (inb 164 (ln T r65)) (gd (inb 164 (ln T r65)) (lt (wI V63 r65 (164 : Int32).toNatClampNeg ((aI V63 r65 (164 : Int32).toNatClampNeg) + 1)) (fun V71 => some V71)))))))))))))))))))))))))))))
def Mo_word6 (T : Tx) (V : Vx) (this : Nat) (p1 : Int32) (p2 : Int32) (p3 : Int32) (p4 : Int32) (p5 : Int32) (p6 : Int32) (p7 : Int32) : Option (Vx) :=
  bd (ck T 11 (fR V 903 this)) (fun r1 => gd (inb 165 (ln T r1)) (lt (84 + (10 * (aI V r1 (165 : Int32).toNatClampNeg)) : Int32) (fun x6 => bd (ck T 11 (fR V 903 this)) (fun r8 => gd (inb x6 (ln T r8)) (lt (wI V r8 x6.toNatClampNeg p1) (fun V13 => bd (ck T 11 (fR V13 903 this)) (fun r15 => bd ((if p7 ≤ 0 then (if p6 ≤ 0 then (if p5 ≤ 0 then some 3 else some 4) else some 5) else some 6)) (fun (x19 : Int32) => gd (inb (x6 + 1) (ln T r15)) (lt (wI V13 r15 (x6 + 1).toNatClampNeg x19) (fun V27 => bd (ck T 11 (fR V27 903 this)) (fun r29 => gd (inb (x6 + 2) (ln T r29)) (lt (wI V27 r29 (x6 + 2).toNatClampNeg p2) (fun V34 => bd (ck T 11 (fR V34 903 this)) (fun r36 => gd (inb (x6 + 3) (ln T r36)) (lt (wI V34 r36 (x6 + 3).toNatClampNeg p3) (fun V41 => bd (ck T 11 (fR V41 903 this)) (fun r43 => gd (inb (x6 + 4) (ln T r43)) (lt (wI V41 r43 (x6 + 4).toNatClampNeg p4) (fun V48 => bd (ck T 11 (fR V48 903 this)) (fun r50 => gd (inb (x6 + 5) (ln T r50)) (lt (wI V48 r50 (x6 + 5).toNatClampNeg p5) (fun V55 => bd (ck T 11 (fR V55 903 this)) (fun r57 => gd (inb (x6 + 6) (ln T r57)) (lt (wI V55 r57 (x6 + 6).toNatClampNeg p6) (fun V62 => bd (ck T 11 (fR V62 903 this)) (fun r64 => gd (inb (x6 + 7) (ln T r64)) (lt (wI V62 r64 (x6 + 7).toNatClampNeg p7) (fun V69 => bd (ck T 11 (fR V69 903 this)) (fun r71 => gd (inb 165 (ln T r71)) (gd (inb 165 (ln T r71)) (lt (wI V69 r71 (165 : Int32).toNatClampNeg ((aI V69 r71 (165 : Int32).toNatClampNeg) + 1)) (fun V77 => some V77))))))))))))))))))))))))))))))))
def Mo_anew_L2 (T : Tx) (this : Nat) : Nat → Vx → Int32 → Option (Vx)
  | 0, _, _ => none
  | n1 + 1, V3, v2 => (if 19 ≤ v2 then some V3 else bd (ck T 11 (fR V3 905 this)) (fun r9 => gd (inb v2 (ln T r9)) (lt (wI V3 r9 v2.toNatClampNeg 0) (fun V14 => Mo_anew_L2 T this n1 V14 (v2 + 1)))))
def Mo_anew (T : Tx) (V : Vx) (this : Nat) : Option (Vx) :=
  bd (Mo_anew_L2 T this FU V 0) (fun V6 => bd (ck T 11 (fR V6 905 this)) (fun r17 => bd (ck T 11 (fR V6 903 this)) (fun r21 => gd (inb 166 (ln T r21)) (gd (inb 0 (ln T r17)) (lt (wI V6 r17 (0 : Int32).toNatClampNeg (aI V6 r21 (166 : Int32).toNatClampNeg)) (fun V27 => lt (sI V27 907 this 0) (fun V29 => some V29)))))))
def Mo_in (T : Tx) (V : Vx) (p1 : Int64) (p2 : Int64) (p3 : Int64) : Option (Int32) :=
  (if (lg_cmp p1 p2) < 0 then some 0 else (if 0 < (lg_cmp p1 p3) then some 0 else some 1))
def Mo_write (T : Tx) (V : Vx) (this : Nat) (p1 : Int32) : Option (Int32 × Vx) :=
  bd (Mo_in T V (Int32.toInt64 p1) 32 126) (fun r2 => (if r2 = 0 then some ((-1), V) else (if (fI V 900 this) = 200 then some ((-3), V) else bd (ck T 11 (fR V 901 this)) (fun r5 => gd (inb (fI V 900 this) (ln T r5)) (lt (wI V r5 (fI V 900 this).toNatClampNeg p1) (fun V10 => lt (sI V10 900 this ((fI V10 900 this) + 1)) (fun V12 => some ((fI V12 900 this), V12))))))))
def Mo_wipe (T : Tx) (V : Vx) (this : Nat) : Option (Int32 × Vx) :=
  lt (fI V 900 this : Int32) (fun x1 => lt (sI V 900 this 0) (fun V3 => some (x1, V3)))
def Mo_byteAt (T : Tx) (V : Vx) (this : Nat) (p1 : Int32) : Option (Int32) :=
  (if (fI V 900 this) ≤ p1 then some 0 else bd (ck T 11 (fR V 901 this)) (fun r2 => gd (inb p1 (ln T r2)) (some (aI V r2 p1.toNatClampNeg))))
def Mo_figure (T : Tx) (V : Vx) (this : Nat) (p1 : Int32) (p2 : Int32) : Option (Int32 × Vx) :=
  bd (Mo_byteAt T V this (fI V 902 this)) (fun r2 => lt (r2 - 48 : Int32) (fun x3 => bd (ck T 11 (fR V 904 this)) (fun r5 => gd (inb p1 (ln T r5)) (lt (wI V r5 p1.toNatClampNeg x3) (fun V10 => lt (sI V10 902 this ((fI V10 902 this) + 1)) (fun V12 => bd (Mo_in T V12 (Int32.toInt64 x3) 0 (Int32.toInt64 p2)) (fun r15 => gd (zo r15) (some (r15, V12)))))))))
def Mo_gone (T : Tx) (V : Vx) (this : Nat) (p1 : Int32) : Option (Int32 × Vx) :=
  bd (Mo_byteAt T V this (fI V 902 this)) (fun r2 => bd ((if r2 = p1 then some 1 else some 0)) (fun (x3 : Int32) => lt (sI V 902 this ((fI V 902 this) + 1)) (fun V8 => gd (zo x3) (some (x3, V8)))))
def Mo_letters_L2 (T : Tx) (this : Nat) (p1 : Int32) (p2 : Int32) : Nat → Vx → Int32 → Option (Int32 × Vx)
  | 0, _, _ => none
  | n1 + 1, V3, v2 => (if p2 ≤ v2 then some (v2, V3) else bd (Mo_byteAt T V3 this (fI V3 902 this)) (fun r11 => bd (Mo_in T V3 (Int32.toInt64 r11) 97 122) (fun r13 => (if r13 = 0 then some (v2, V3) else bd (ck T 11 (fR V3 904 this)) (fun r15 => bd (Mo_byteAt T V3 this (fI V3 902 this)) (fun r20 => gd (inb ((p1 + 1) + v2) (ln T r15)) (lt (wI V3 r15 ((p1 + 1) + v2).toNatClampNeg r20) (fun V22 => lt (sI V22 902 this ((fI V22 902 this) + 1)) (fun V24 => Mo_letters_L2 T this p1 p2 n1 V24 (v2 + 1))))))))))
def Mo_letters (T : Tx) (V : Vx) (this : Nat) (p1 : Int32) (p2 : Int32) : Option (Int32 × Vx) :=
  bd2 (Mo_letters_L2 T this p1 p2 FU V 0) (fun y6 V7 => bd (ck T 11 (fR V7 904 this)) (fun r27 => gd (inb p1 (ln T r27)) (lt (wI V7 r27 p1.toNatClampNeg y6) (fun V32 => (if y6 ≤ 0 then some (0, V32) else some (1, V32))))))
def Mo_wordItem_L91 (T : Tx) (V28 : Vx) (this : Nat) (x6 : Int32) (x8 : Int32) (v32 : Int32) (x36 : Int32) : Nat → Int32 → Int32 → Option (Int32)
  | 0, _, _ => none
  | n38 + 1, v39, v40 => bd (ck T 11 (fR V28 904 this)) (fun r45 => gd (inb (x8 + 1) (ln T r45)) ((if (2 + (aI V28 r45 (x8 + 1).toNatClampNeg)) ≤ v40 then some v39 else (if v39 = 0 then Mo_wordItem_L91 T V28 this x6 x8 v32 x36 n38 0 (v40 + 1) else bd (ck T 11 (fR V28 904 this)) (fun r52 => gd (inb (x8 + v40) (ln T r52)) (bd (ck T 11 (fR V28 904 this)) (fun r57 => gd (inb (x36 + v40) (ln T r57)) ((if (aI V28 r52 (x8 + v40).toNatClampNeg) = (aI V28 r57 (x36 + v40).toNatClampNeg) then Mo_wordItem_L91 T V28 this x6 x8 v32 x36 n38 1 (v40 + 1) else Mo_wordItem_L91 T V28 this x6 x8 v32 x36 n38 0 (v40 + 1))))))))))
def Mo_wordItem_L71 (T : Tx) (V28 : Vx) (this : Nat) (x6 : Int32) (x8 : Int32) : Nat → Int32 → Option (Int32 × Vx)
  | 0, _ => none
  | n31 + 1, v32 => (if x6 ≤ v32 then some (1, V28) else lt (84 + (10 * v32) : Int32) (fun x36 => bd (Mo_wordItem_L91 T V28 this x6 x8 v32 x36 FU 1 0) (fun y43 => (if y43 = 0 then Mo_wordItem_L71 T V28 this x6 x8 n31 (v32 + 1) else some (0, V28)))))
def Mo_wordItem (T : Tx) (V : Vx) (this : Nat) : Option (Int32 × Vx) :=
  bd (ck T 11 (fR V 904 this)) (fun r1 => gd (inb 165 (ln T r1)) (lt (aI V r1 (165 : Int32).toNatClampNeg : Int32) (fun x6 => lt (84 + (10 * x6) : Int32) (fun x8 => (if x6 = 8 then some (0, V) else bd (ck T 11 (fR V 904 this)) (fun r11 => gd (inb 165 (ln T r11)) (gd (inb 165 (ln T r11)) (lt (wI V r11 (165 : Int32).toNatClampNeg ((aI V r11 (165 : Int32).toNatClampNeg) + 1)) (fun V17 => bd2 (Mo_figure T V17 this x8 5) (fun r21 V20 => (if r21 = 0 then some (0, V20) else bd2 (Mo_gone T V20 this 44) (fun r25 V24 => (if r25 = 0 then some (0, V24) else bd2 (Mo_letters T V24 this (x8 + 1) 8) (fun r29 V28 => (if r29 = 0 then some (0, V28) else Mo_wordItem_L71 T V28 this x6 x8 FU 0)))))))))))))))
def Mo_signItem (T : Tx) (V : Vx) (this : Nat) (p1 : Int32) : Option (Int32 × Vx) :=
  bd (ck T 11 (fR V 904 this)) (fun r1 => gd (inb 164 (ln T r1)) (lt (7 * (aI V r1 (164 : Int32).toNatClampNeg) : Int32) (fun x6 => bd (ck T 11 (fR V 904 this)) (fun r8 => gd (inb 164 (ln T r8)) ((if (aI V r8 (164 : Int32).toNatClampNeg) = 12 then some (0, V) else bd (ck T 11 (fR V 904 this)) (fun r14 => gd (inb 164 (ln T r14)) (gd (inb 164 (ln T r14)) (lt (wI V r14 (164 : Int32).toNatClampNeg ((aI V r14 (164 : Int32).toNatClampNeg) + 1)) (fun V20 => bd (ck T 11 (fR V20 904 this)) (fun r22 => bd ((if p1 = 112 then some 0 else (if p1 = 115 then some 1 else some 2))) (fun (x26 : Int32) => gd (inb x6 (ln T r22)) (lt (wI V20 r22 x6.toNatClampNeg x26) (fun V33 => bd (ck T 11 (fR V33 904 this)) (fun r35 => gd (inb (x6 + 1) (ln T r35)) (lt (wI V33 r35 (x6 + 1).toNatClampNeg (-4)) (fun V40 => bd (ck T 11 (fR V40 904 this)) (fun r42 => gd (inb (x6 + 2) (ln T r42)) (lt (wI V40 r42 (x6 + 2).toNatClampNeg 0) (fun V47 => (if p1 = 109 then bd2 (Mo_figure T V47 this (x6 + 1) 5) (fun r69 V68 => gd (zo r69) (some (r69, V68))) else (if p1 = 115 then bd2 (Mo_letters T V47 this (x6 + 2) 4) (fun r53 V52 => (if r53 = 0 then some (0, V52) else some (1, V52))) else bd2 (Mo_figure T V47 this (x6 + 1) 5) (fun r57 V56 => (if r57 = 0 then some (0, V56) else bd2 (Mo_gone T V56 this 44) (fun r61 V60 => (if r61 = 0 then some (0, V60) else bd2 (Mo_letters T V60 this (x6 + 2) 4) (fun r65 V64 => (if r65 = 0 then some (0, V64) else some (1, V64)))))))))))))))))))))))))))))
def Mo_item (T : Tx) (V : Vx) (this : Nat) (p1 : Int32) : Option (Int32 × Vx) :=
  (if p1 = 107 then bd2 (Mo_figure T V this 166 1) (fun r4 V3 => gd (zo r4) (some (r4, V3))) else if p1 = 109 ∨ p1 = 112 ∨ p1 = 115 then bd2 (Mo_signItem T V this p1) (fun r10 V9 => gd (zo r10) (some (r10, V9))) else if p1 = 119 then bd2 (Mo_wordItem T V this) (fun r16 V15 => gd (zo r16) (some (r16, V15))) else some (0, V))
def Mo_fault_L2 (T : Tx) (this : Nat) : Nat → Vx → Int32 → Option (Vx)
  | 0, _, _ => none
  | n1 + 1, V3, v2 => (if 167 ≤ v2 then some V3 else bd (ck T 11 (fR V3 904 this)) (fun r9 => gd (inb v2 (ln T r9)) (lt (wI V3 r9 v2.toNatClampNeg 0) (fun V14 => Mo_fault_L2 T this n1 V14 (v2 + 1)))))
def Mo_fault_L27 (T : Tx) (this : Nat) : Nat → Vx → Option (Int32 × Vx)
  | 0, _ => none
  | n19 + 1, V20 => (if (fI V20 900 this) ≤ (fI V20 902 this) then some ((-4), V20) else lt (fI V20 902 this : Int32) (fun x24 => lt (sI V20 902 this ((fI V20 902 this) + 1)) (fun V26 => bd (ck T 11 (fR V26 901 this)) (fun r28 => gd (inb x24 (ln T r28)) (bd2 (Mo_item T V26 this (aI V26 r28 x24.toNatClampNeg)) (fun r35 V34 => (if r35 = 0 then some (x24, V34) else bd2 (Mo_gone T V34 this 59) (fun r39 V38 => (if r39 = 0 then some (x24, V38) else Mo_fault_L27 T this n19 V38)))))))))
def Mo_fault (T : Tx) (V : Vx) (this : Nat) : Option (Int32 × Vx) :=
  bd (Mo_fault_L2 T this FU V 0) (fun V6 => lt (sI V6 902 this 0) (fun V17 => Mo_fault_L27 T this FU V17))
def Mo_lay_L36 (T : Tx) (this : Nat) : Nat → Vx → Int32 → Option (Vx)
  | 0, _, _ => none
  | n17 + 1, V19, v18 => (if 167 ≤ v18 then some V19 else bd (ck T 11 (fR V19 903 this)) (fun r25 => bd (ck T 11 (fR V19 904 this)) (fun r29 => gd (inb v18 (ln T r29)) (gd (inb v18 (ln T r25)) (lt (wI V19 r25 v18.toNatClampNeg (aI V19 r29 v18.toNatClampNeg)) (fun V35 => Mo_lay_L36 T this n17 V35 (v18 + 1)))))))
def Mo_lay (T : Tx) (V : Vx) (this : Nat) : Option (Int32 × Vx) :=
  bd2 (Mo_fault T V this) (fun r3 V2 => (if r3 = (-4) then bd (ck T 11 (fR V2 904 this)) (fun r5 => gd (inb 164 (ln T r5)) ((if (aI V2 r5 (164 : Int32).toNatClampNeg) = 0 then some ((-2), V2) else bd (ck T 11 (fR V2 904 this)) (fun r11 => gd (inb 165 (ln T r11)) ((if (aI V2 r11 (165 : Int32).toNatClampNeg) = 0 then some ((-2), V2) else bd (Mo_lay_L36 T this FU V2 0) (fun V22 => bd (Mo_anew T V22 this) (fun V39 => bd (ck T 11 (fR V39 903 this)) (fun r40 => gd (inb 164 (ln T r40)) (some ((aI V39 r40 (164 : Int32).toNatClampNeg), V39))))))))))) else some ((-2), V2)))
def Mo_note_L11 (T : Tx) (this : Nat) : Nat → Vx → Int32 → Option (Vx)
  | 0, _, _ => none
  | n6 + 1, V8, v7 => (if 95 ≤ v7 then some V8 else bd (ck T 11 (fR V8 906 this)) (fun r14 => bd (ck T 11 (fR V8 906 this)) (fun r18 => gd (inb (19 + v7) (ln T r18)) (gd (inb v7 (ln T r14)) (lt (wI V8 r14 v7.toNatClampNeg (aI V8 r18 (19 + v7).toNatClampNeg)) (fun V24 => Mo_note_L11 T this n6 V24 (v7 + 1)))))))
def Mo_note_L50 (T : Tx) (this : Nat) : Nat → Vx → Int32 → Option (Vx)
  | 0, _, _ => none
  | n29 + 1, V31, v30 => (if 19 ≤ v30 then some V31 else bd (ck T 11 (fR V31 906 this)) (fun r37 => bd (ck T 11 (fR V31 905 this)) (fun r41 => gd (inb v30 (ln T r41)) (gd (inb ((19 * (fI V31 907 this)) + v30) (ln T r37)) (lt (wI V31 r37 ((19 * (fI V31 907 this)) + v30).toNatClampNeg (aI V31 r41 v30.toNatClampNeg)) (fun V47 => Mo_note_L50 T this n29 V47 (v30 + 1)))))))
def Mo_note (T : Tx) (V : Vx) (this : Nat) : Option (Vx) :=
  bd ((if (fI V 907 this) = 6 then bd (Mo_note_L11 T this FU V 0) (fun V11 => lt (sI V11 907 this ((fI V11 907 this) - 1)) (fun V27 => some V27)) else some V)) (fun (V1 : Vx) => bd (Mo_note_L50 T this FU V1 0) (fun V34 => lt (sI V34 907 this ((fI V34 907 this) + 1)) (fun V50 => some V50)))
def Mo_undo_L22 (T : Tx) (this : Nat) : Nat → Vx → Int32 → Option (Int32 × Vx)
  | 0, _, _ => none
  | n4 + 1, V6, v5 => (if 19 ≤ v5 then some ((fI V6 907 this), V6) else bd (ck T 11 (fR V6 905 this)) (fun r10 => bd (ck T 11 (fR V6 906 this)) (fun r14 => gd (inb ((19 * (fI V6 907 this)) + v5) (ln T r14)) (gd (inb v5 (ln T r10)) (lt (wI V6 r10 v5.toNatClampNeg (aI V6 r14 ((19 * (fI V6 907 this)) + v5).toNatClampNeg)) (fun V20 => Mo_undo_L22 T this n4 V20 (v5 + 1)))))))
def Mo_undo (T : Tx) (V : Vx) (this : Nat) : Option (Int32 × Vx) :=
  (if (fI V 907 this) = 0 then some ((-2), V) else lt (sI V 907 this ((fI V 907 this) - 1)) (fun V2 => Mo_undo_L22 T this FU V2 0))
def Mo_isSign (T : Tx) (V : Vx) (this : Nat) (p1 : Int32) : Option (Int32) :=
  bd (ck T 11 (fR V 903 this)) (fun r1 => gd (inb 164 (ln T r1)) (bd (Mo_in T V (Int32.toInt64 p1) 0 (Int32.toInt64 ((aI V r1 (164 : Int32).toNatClampNeg) - 1))) (fun r7 => gd (zo r7) (some r7))))
def Mo_isWord (T : Tx) (V : Vx) (this : Nat) (p1 : Int32) : Option (Int32) :=
  bd (ck T 11 (fR V 903 this)) (fun r1 => gd (inb 165 (ln T r1)) (bd (Mo_in T V (Int32.toInt64 p1) 0 (Int32.toInt64 ((aI V r1 (165 : Int32).toNatClampNeg) - 1))) (fun r7 => gd (zo r7) (some r7))))
def Mo_isStruck (T : Tx) (V : Vx) (this : Nat) (p1 : Int32) : Option (Int32) :=
  bd (ck T 11 (fR V 905 this)) (fun r1 => gd (inb 1 (ln T r1)) ((if (((aI V r1 (1 : Int32).toNatClampNeg) >>> (p1 &&& 31)) &&& 1) = 1 then some 1 else some 0)))
def Mo_bits_L4 (T : Tx) (V : Vx) (p1 : Int32) : Nat → Int32 → Int32 → Option (Int32)
  | 0, _, _ => none
  | n1 + 1, v2, v3 => (if 16 ≤ v3 then some v2 else lt (v2 + ((p1 >>> (v3 &&& 31)) &&& 1) : Int32) (fun x7 => Mo_bits_L4 T V p1 n1 x7 (v3 + 1)))
def Mo_bits (T : Tx) (V : Vx) (p1 : Int32) : Option (Int32) :=
  Mo_bits_L4 T V p1 FU 0 0
def Mo_strike (T : Tx) (V : Vx) (this : Nat) (p1 : Int32) (p2 : Int32) : Option (Int32 × Vx) :=
  bd (Mo_isSign T V this p1) (fun r2 => (if r2 = 0 then some ((-1), V) else bd (Mo_in T V (Int32.toInt64 p2) 0 1) (fun r5 => (if r5 = 0 then some ((-1), V) else bd (Mo_isStruck T V this p1) (fun r8 => bd ((if p2 = 1 then some 1 else some 0)) (fun (x9 : Int32) => (if r8 = x9 then some ((-2), V) else bd (Mo_note T V this) (fun V16 => bd (ck T 11 (fR V16 905 this)) (fun r17 => gd (inb 1 (ln T r17)) (gd (inb 1 (ln T r17)) (lt (wI V16 r17 (1 : Int32).toNatClampNeg ((aI V16 r17 (1 : Int32).toNatClampNeg) ^^^ ((1 : Int32) <<< (p1 &&& 31)))) (fun V23 => bd (ck T 11 (fR V23 905 this)) (fun r25 => gd (inb 1 (ln T r25)) (bd (Mo_bits T V23 (aI V23 r25 (1 : Int32).toNatClampNeg)) (fun r31 => some (r31, V23))))))))))))))))
def Mo_law (T : Tx) (V : Vx) (this : Nat) (p1 : Int32) : Option (Int32 × Vx) :=
  bd (Mo_in T V (Int32.toInt64 p1) 0 1) (fun r2 => (if r2 = 0 then some ((-1), V) else bd (ck T 11 (fR V 905 this)) (fun r4 => gd (inb 0 (ln T r4)) (lt (aI V r4 (0 : Int32).toNatClampNeg : Int32) (fun x9 => (if x9 = p1 then some ((-2), V) else bd (Mo_note T V this) (fun V13 => bd (ck T 11 (fR V13 905 this)) (fun r14 => gd (inb 0 (ln T r14)) (lt (wI V13 r14 (0 : Int32).toNatClampNeg p1) (fun V19 => some (x9, V19)))))))))))
def Mo_carve (T : Tx) (V : Vx) (this : Nat) (p1 : Int32) : Option (Int32 × Vx) :=
  bd (Mo_isSign T V this p1) (fun r2 => (if r2 = 0 then some ((-1), V) else bd (ck T 11 (fR V 905 this)) (fun r4 => gd (inb 2 (ln T r4)) ((if (aI V r4 (2 : Int32).toNatClampNeg) = 16 then some ((-3), V) else bd (Mo_note T V this) (fun V11 => bd (ck T 11 (fR V11 905 this)) (fun r12 => bd (ck T 11 (fR V11 905 this)) (fun r16 => gd (inb 2 (ln T r16)) (gd (inb (3 + (aI V11 r16 (2 : Int32).toNatClampNeg)) (ln T r12)) (lt (wI V11 r12 (3 + (aI V11 r16 (2 : Int32).toNatClampNeg)).toNatClampNeg p1) (fun V22 => bd (ck T 11 (fR V22 905 this)) (fun r24 => gd (inb 2 (ln T r24)) (gd (inb 2 (ln T r24)) (lt (wI V22 r24 (2 : Int32).toNatClampNeg ((aI V22 r24 (2 : Int32).toNatClampNeg) + 1)) (fun V30 => bd (ck T 11 (fR V30 905 this)) (fun r32 => gd (inb 2 (ln T r32)) (some ((aI V30 r32 (2 : Int32).toNatClampNeg), V30))))))))))))))))))
def Mo_chip (T : Tx) (V : Vx) (this : Nat) : Option (Int32 × Vx) :=
  bd (ck T 11 (fR V 905 this)) (fun r1 => gd (inb 2 (ln T r1)) ((if (aI V r1 (2 : Int32).toNatClampNeg) = 0 then some ((-2), V) else bd (Mo_note T V this) (fun V8 => bd (ck T 11 (fR V8 905 this)) (fun r9 => gd (inb 2 (ln T r9)) (gd (inb 2 (ln T r9)) (lt (wI V8 r9 (2 : Int32).toNatClampNeg ((aI V8 r9 (2 : Int32).toNatClampNeg) - 1)) (fun V15 => bd (ck T 11 (fR V15 905 this)) (fun r17 => bd (ck T 11 (fR V15 905 this)) (fun r21 => gd (inb 2 (ln T r21)) (gd (inb (3 + (aI V15 r21 (2 : Int32).toNatClampNeg)) (ln T r17)) (some ((aI V15 r17 (3 + (aI V15 r21 (2 : Int32).toNatClampNeg)).toNatClampNeg), V15)))))))))))))
def Mo_letterOf (T : Tx) (V : Vx) (this : Nat) (p1 : Int32) (p2 : Int32) : Option (Int32) :=
  bd (ck T 11 (fR V 903 this)) (fun r1 => gd (inb (((84 + (10 * p1)) + 2) + p2) (ln T r1)) (some (aI V r1 (((84 + (10 * p1)) + 2) + p2).toNatClampNeg)))
def Mo_long1 (T : Tx) (V : Vx) (this : Nat) (p1 : Int32) : Option (Int32) :=
  bd (ck T 11 (fR V 903 this)) (fun r1 => gd (inb ((84 + (10 * p1)) + 1) (ln T r1)) (some (aI V r1 ((84 + (10 * p1)) + 1).toNatClampNeg)))
def Mo_isVowel (T : Tx) (V : Vx) (this : Nat) (p1 : Int32) (p2 : Int32) : Option (Int32) :=
  bd (Mo_letterOf T V this p1 p2) (fun r2 => (if r2 = 97 then some 1 else (if r2 = 101 then some 1 else (if r2 = 105 then some 1 else (if r2 = 111 then some 1 else (if r2 = 117 then some 1 else some 0))))))
def Mo_soundLong (T : Tx) (V : Vx) (this : Nat) (p1 : Int32) : Option (Int32) :=
  bd (ck T 11 (fR V 903 this)) (fun r1 => gd (inb ((7 * p1) + 2) (ln T r1)) (some (aI V r1 ((7 * p1) + 2).toNatClampNeg)))
def Mo_lies_L25 (T : Tx) (V : Vx) (this : Nat) (p1 : Int32) (p2 : Int32) (p3 : Int32) : Nat → Int32 → Int32 → Option (Int32)
  | 0, _, _ => none
  | n10 + 1, v11, v12 => bd (Mo_soundLong T V this p3) (fun r16 => (if r16 ≤ v12 then gd (zo v11) (some v11) else (if v11 = 0 then gd (zo v11) (some v11) else bd (Mo_letterOf T V this p1 (p2 + v12)) (fun r22 => bd (ck T 11 (fR V 903 this)) (fun r23 => gd (inb (((7 * p3) + 3) + v12) (ln T r23)) ((if r22 = (aI V r23 (((7 * p3) + 3) + v12).toNatClampNeg) then Mo_lies_L25 T V this p1 p2 p3 n10 1 (v12 + 1) else Mo_lies_L25 T V this p1 p2 p3 n10 0 (v12 + 1))))))))
def Mo_lies (T : Tx) (V : Vx) (this : Nat) (p1 : Int32) (p2 : Int32) (p3 : Int32) : Option (Int32) :=
  bd (Mo_soundLong T V this p3) (fun r2 => bd (Mo_long1 T V this p1) (fun r4 => bd ((if r4 < (p2 + r2) then some 0 else some 1)) (fun (x5 : Int32) => Mo_lies_L25 T V this p1 p2 p3 FU x5 0)))
def Mo_skips_L5 (T : Tx) (V : Vx) (this : Nat) (p1 : Int32) : Nat → Int32 → Int32 → Option (Int32)
  | 0, _, _ => none
  | n1 + 1, v2, v3 => bd (Mo_long1 T V this p1) (fun r7 => (if r7 ≤ v3 then some v2 else bd (ck T 11 (fR V 905 this)) (fun r9 => gd (inb 0 (ln T r9)) ((if (aI V r9 (0 : Int32).toNatClampNeg) = 1 then (if ((v2 >>> (v3 &&& 31)) &&& 1) = 1 then bd (Mo_isVowel T V this p1 v3) (fun r19 => (if r19 = 0 then lt (v2 ||| 0 : Int32) (fun x21 => Mo_skips_L5 T V this p1 n1 x21 (v3 + 1)) else lt (v2 ||| ((1 : Int32) <<< ((v3 + 1) &&& 31)) : Int32) (fun x23 => Mo_skips_L5 T V this p1 n1 x23 (v3 + 1)))) else lt (v2 ||| 0 : Int32) (fun x16 => Mo_skips_L5 T V this p1 n1 x16 (v3 + 1))) else some v2)))))
def Mo_skips (T : Tx) (V : Vx) (this : Nat) (p1 : Int32) (p2 : Int32) : Option (Int32) :=
  Mo_skips_L5 T V this p1 FU p2 0
def Mo_steps_L14 (T : Tx) (V : Vx) (this : Nat) (p1 : Int32) (p3 : Int32) (r2 : Int32) : Nat → Int32 → Int32 → Option (Int32)
  | 0, _, _ => none
  | n3 + 1, v4, v5 => bd (Mo_long1 T V this p1) (fun r9 => (if r9 ≤ v5 then some v4 else (if ((r2 >>> (v5 &&& 31)) &&& 1) = 1 then bd (Mo_lies T V this p1 v5 p3) (fun r15 => (if r15 = 0 then lt (v4 ||| 0 : Int32) (fun x17 => Mo_steps_L14 T V this p1 p3 r2 n3 x17 (v5 + 1)) else bd (Mo_soundLong T V this p3) (fun r20 => lt (v4 ||| ((1 : Int32) <<< ((v5 + r20) &&& 31)) : Int32) (fun x21 => Mo_steps_L14 T V this p1 p3 r2 n3 x21 (v5 + 1))))) else lt (v4 ||| 0 : Int32) (fun x12 => Mo_steps_L14 T V this p1 p3 r2 n3 x12 (v5 + 1)))))
def Mo_steps (T : Tx) (V : Vx) (this : Nat) (p1 : Int32) (p2 : Int32) (p3 : Int32) : Option (Int32) :=
  bd (Mo_skips T V this p1 p2) (fun r2 => Mo_steps_L14 T V this p1 p3 r2 FU 0 0)
def Mo_isWhole (T : Tx) (V : Vx) (this : Nat) (p1 : Int32) (p2 : Int32) : Option (Int32) :=
  bd (Mo_skips T V this p1 p2) (fun r2 => bd (Mo_long1 T V this p1) (fun r4 => (if ((r2 >>> (r4 &&& 31)) &&& 1) = 1 then some 1 else some 0)))
def Mo_hasSound (T : Tx) (V : Vx) (this : Nat) (p1 : Int32) : Option (Int32) :=
  bd (ck T 11 (fR V 903 this)) (fun r1 => gd (inb (7 * p1) (ln T r1)) ((if (aI V r1 (7 * p1).toNatClampNeg) = 2 then some 0 else some 1)))
def Mo_isWriting_L9 (T : Tx) (V : Vx) (this : Nat) (p1 : Int32) (p2 : Nat) (p3 : Int32) (p4 : Int32) : Nat → Int32 → Int32 → Int32 → Option (Int32)
  | 0, _, _, _ => none
  | n1 + 1, v2, v3, v4 => (if p4 ≤ v4 then (if 10 ≤ p4 then some 0 else (if v3 ≤ 0 then some 0 else bd (Mo_isWhole T V this p1 v2) (fun r11 => (if r11 = 0 then some 0 else some 1)))) else gd (inb (p3 + v4) (ln T p2)) (lt (aI V p2 (p3 + v4).toNatClampNeg : Int32) (fun x14 => bd (Mo_isStruck T V this x14) (fun r17 => (if r17 = 0 then bd (Mo_hasSound T V this x14) (fun r20 => jn (fun (_ : Unit) => bd (Mo_hasSound T V this x14) (fun r39 => bd ((if r39 = 0 then some v2 else bd (Mo_steps T V this p1 v2 x14) (fun r46 => some r46))) (fun (x40 : Int32) => bd (Mo_hasSound T V this x14) (fun r48 => (if r48 = 0 then lt (v3 + 0 : Int32) (fun x50 => Mo_isWriting_L9 T V this p1 p2 p3 p4 n1 x40 x50 (v4 + 1)) else lt (v3 + 1 : Int32) (fun x52 => Mo_isWriting_L9 T V this p1 p2 p3 p4 n1 x40 x52 (v4 + 1))))))) (fun J23 => (if r20 = 0 then (if v4 < (p4 - 1) then some 0 else bd (ck T 11 (fR V 903 this)) (fun r27 => gd (inb ((7 * x14) + 1) (ln T r27)) (bd (ck T 11 (fR V 903 this)) (fun r32 => gd (inb (84 + (10 * p1)) (ln T r32)) ((if (aI V r27 ((7 * x14) + 1).toNatClampNeg) = (aI V r32 (84 + (10 * p1)).toNatClampNeg) then J23 () else some 0)))))) else J23 ()))) else some 0)))))
def Mo_isWriting (T : Tx) (V : Vx) (this : Nat) (p1 : Int32) (p2 : Nat) (p3 : Int32) (p4 : Int32) : Option (Int32) :=
  Mo_isWriting_L9 T V this p1 p2 p3 p4 FU 1 0 0
def Mo_reads_L11 (T : Tx) (V : Vx) (this : Nat) (p1 : Nat) (p2 : Int32) (p3 : Int32) (x2 : Int32) : Nat → Int32 → Int32 → Option (Int32)
  | 0, _, _ => none
  | n4 + 1, v5, v6 => bd (ck T 11 (fR V 903 this)) (fun r9 => gd (inb 165 (ln T r9)) ((if (aI V r9 (165 : Int32).toNatClampNeg) ≤ v6 then some v5 else bd (Mo_isWriting T V this v6 p1 p2 p3) (fun r16 => bd ((if r16 = 0 then some 0 else some ((1 : Int32) <<< (v6 &&& 31)))) (fun (x17 : Int32) => lt (v5 ||| x17 : Int32) (fun x22 => (if r16 = 0 then Mo_reads_L11 T V this p1 p2 p3 x2 n4 x22 (v6 + 1) else (if p3 = 1 then bd (ck T 11 (fR V 903 this)) (fun r26 => gd (inb (7 * x2) (ln T r26)) ((if (aI V r26 (7 * x2).toNatClampNeg) = 0 then bd (ck T 11 (fR V 903 this)) (fun r32 => gd (inb ((7 * x2) + 1) (ln T r32)) (bd (ck T 11 (fR V 903 this)) (fun r37 => gd (inb (84 + (10 * v6)) (ln T r37)) ((if (aI V r32 ((7 * x2) + 1).toNatClampNeg) = (aI V r37 (84 + (10 * v6)).toNatClampNeg) then bd (Mo_long1 T V this v6) (fun r44 => bd (Mo_soundLong T V this x2) (fun r46 => (if r44 = r46 then bd (Mo_lies T V this v6 0 x2) (fun r49 => (if r49 = 0 then Mo_reads_L11 T V this p1 p2 p3 x2 n4 x22 (v6 + 1) else some ((1 : Int32) <<< (v6 &&& 31)))) else Mo_reads_L11 T V this p1 p2 p3 x2 n4 x22 (v6 + 1)))) else Mo_reads_L11 T V this p1 p2 p3 x2 n4 x22 (v6 + 1)))))) else Mo_reads_L11 T V this p1 p2 p3 x2 n4 x22 (v6 + 1)))) else Mo_reads_L11 T V this p1 p2 p3 x2 n4 x22 (v6 + 1)))))))))
def Mo_reads (T : Tx) (V : Vx) (this : Nat) (p1 : Nat) (p2 : Int32) (p3 : Int32) : Option (Int32) :=
  gd (inb p2 (ln T p1)) (lt (aI V p1 p2.toNatClampNeg : Int32) (fun x2 => Mo_reads_L11 T V this p1 p2 p3 x2 FU 0 0))
def Mo_meets (T : Tx) (V : Vx) (this : Nat) (p1 : Int32) : Option (Int32 × Vx) :=
  bd (ck T 11 (fR V 909 this)) (fun r1 => gd (inb p1 (ln T r1)) ((if 0 ≤ (aI V r1 p1.toNatClampNeg) then bd (ck T 11 (fR V 909 this)) (fun r7 => gd (inb p1 (ln T r7)) (some ((aI V r7 p1.toNatClampNeg), V))) else bd (ck T 11 (fR V 909 this)) (fun r12 => gd (inb p1 (ln T r12)) (lt (wI V r12 p1.toNatClampNeg (fI V 911 this)) (fun V17 => bd (ck T 11 (fR V17 908 this)) (fun r19 => gd (inb (fI V17 911 this) (ln T r19)) (lt (wI V17 r19 (fI V17 911 this).toNatClampNeg p1) (fun V24 => lt (sI V24 911 this ((fI V24 911 this) + 1)) (fun V26 => bd (ck T 11 (fR V26 909 this)) (fun r28 => gd (inb p1 (ln T r28)) (some ((aI V26 r28 p1.toNatClampNeg), V26)))))))))))))
def Mo_explores_L2 (T : Tx) (this : Nat) (p1 : Int32) : Nat → Vx → Int32 → Option (Vx)
  | 0, _, _ => none
  | n1 + 1, V3, v2 => (if 512 ≤ v2 then some V3 else bd (ck T 11 (fR V3 909 this)) (fun r9 => gd (inb v2 (ln T r9)) (lt (wI V3 r9 v2.toNatClampNeg (-1)) (fun V14 => Mo_explores_L2 T this p1 n1 V14 (v2 + 1)))))
def Mo_explores_L46 (T : Tx) (this : Nat) (p1 : Int32) (v23 : Int32) : Nat → Vx → Int32 → Option (Vx)
  | 0, _, _ => none
  | n28 + 1, V30, v29 => bd (ck T 11 (fR V30 903 this)) (fun r35 => gd (inb 164 (ln T r35)) ((if (aI V30 r35 (164 : Int32).toNatClampNeg) ≤ v29 then some V30 else bd (Mo_hasSound T V30 this v29) (fun r42 => bd ((if r42 = 0 then some 0 else bd (Mo_isStruck T V30 this v29) (fun r49 => (if r49 = 0 then bd (ck T 11 (fR V30 908 this)) (fun r51 => gd (inb v23 (ln T r51)) (bd (Mo_steps T V30 this p1 (aI V30 r51 v23.toNatClampNeg) v29) (fun r57 => some r57))) else some 0)))) (fun (x43 : Int32) => bd (ck T 11 (fR V30 910 this)) (fun r58 => (if x43 ≤ 0 then gd (inb ((12 * v23) + v29) (ln T r58)) (lt (wI V30 r58 ((12 * v23) + v29).toNatClampNeg (-1)) (fun V64 => Mo_explores_L46 T this p1 v23 n28 V64 (v29 + 1))) else bd2 (Mo_meets T V30 this x43) (fun r68 V67 => gd (inb ((12 * v23) + v29) (ln T r58)) (lt (wI V67 r58 ((12 * v23) + v29).toNatClampNeg r68) (fun V70 => Mo_explores_L46 T this p1 v23 n28 V70 (v29 + 1)))))))))))
def Mo_explores_L35 (T : Tx) (this : Nat) (p1 : Int32) : Nat → Vx → Int32 → Option (Vx)
  | 0, _, _ => none
  | n22 + 1, V24, v23 => (if (fI V24 911 this) ≤ v23 then some V24 else bd (Mo_explores_L46 T this p1 v23 FU V24 0) (fun V33 => Mo_explores_L35 T this p1 n22 V33 (v23 + 1)))
def Mo_explores (T : Tx) (V : Vx) (this : Nat) (p1 : Int32) : Option (Vx) :=
  bd (Mo_explores_L2 T this p1 FU V 0) (fun V6 => lt (sI V6 911 this 0) (fun V17 => bd2 (Mo_meets T V17 this 1) (fun r21 V20 => Mo_explores_L35 T this p1 FU V20 r21)))
def Mo_mosts_L7 (T : Tx) (this : Nat) (p1 : Int32) : Nat → Vx → Int32 → Option (Vx)
  | 0, _, _ => none
  | n3 + 1, V5, v4 => (if (fI V5 911 this) ≤ v4 then some V5 else bd (ck T 11 (fR V5 912 this)) (fun r11 => bd (ck T 11 (fR V5 908 this)) (fun r15 => gd (inb v4 (ln T r15)) (bd (Mo_isWhole T V5 this p1 (aI V5 r15 v4.toNatClampNeg)) (fun r21 => (if r21 = 0 then gd (inb v4 (ln T r11)) (lt (wI V5 r11 v4.toNatClampNeg (-1)) (fun V24 => Mo_mosts_L7 T this p1 n3 V24 (v4 + 1))) else gd (inb v4 (ln T r11)) (lt (wI V5 r11 v4.toNatClampNeg 0) (fun V27 => Mo_mosts_L7 T this p1 n3 V27 (v4 + 1)))))))))
def Mo_mosts_L70 (T : Tx) (V38 : Vx) (this : Nat) (v31 : Int32) (v37 : Int32) : Nat → Int32 → Int32 → Option (Int32)
  | 0, _, _ => none
  | n44 + 1, v45, v46 => bd (ck T 11 (fR V38 903 this)) (fun r51 => gd (inb 164 (ln T r51)) ((if (aI V38 r51 (164 : Int32).toNatClampNeg) ≤ v46 then some v45 else bd (ck T 11 (fR V38 910 this)) (fun r57 => gd (inb ((12 * v37) + v46) (ln T r57)) (bd ((if (aI V38 r57 ((12 * v37) + v46).toNatClampNeg) < 0 then some (-1) else bd (ck T 11 (fR V38 912 this)) (fun r67 => bd (ck T 11 (fR V38 910 this)) (fun r71 => gd (inb ((12 * v37) + v46) (ln T r71)) (gd (inb ((512 * (v31 - 1)) + (aI V38 r71 ((12 * v37) + v46).toNatClampNeg)) (ln T r67)) (some (aI V38 r67 ((512 * (v31 - 1)) + (aI V38 r71 ((12 * v37) + v46).toNatClampNeg)).toNatClampNeg))))))) (fun (x62 : Int32) => (if x62 < 0 then Mo_mosts_L70 T V38 this v31 v37 n44 v45 (v46 + 1) else bd (Mo_soundLong T V38 this v46) (fun r79 => (if (x62 + r79) ≤ v45 then Mo_mosts_L70 T V38 this v31 v37 n44 v45 (v46 + 1) else bd (Mo_soundLong T V38 this v46) (fun r82 => lt (x62 + r82 : Int32) (fun x83 => Mo_mosts_L70 T V38 this v31 v37 n44 x83 (v46 + 1))))))))))))
def Mo_mosts_L56 (T : Tx) (this : Nat) (v31 : Int32) : Nat → Vx → Int32 → Option (Vx)
  | 0, _, _ => none
  | n36 + 1, V38, v37 => (if (fI V38 911 this) ≤ v37 then some V38 else bd (Mo_mosts_L70 T V38 this v31 v37 FU (-1) 0) (fun y49 => bd (ck T 11 (fR V38 912 this)) (fun r86 => gd (inb ((512 * v31) + v37) (ln T r86)) (lt (wI V38 r86 ((512 * v31) + v37).toNatClampNeg y49) (fun V91 => Mo_mosts_L56 T this v31 n36 V91 (v37 + 1))))))
def Mo_mosts_L48 (T : Tx) (this : Nat) : Nat → Vx → Int32 → Option (Vx)
  | 0, _, _ => none
  | n30 + 1, V32, v31 => (if 10 ≤ v31 then some V32 else bd (Mo_mosts_L56 T this v31 FU V32 0) (fun V41 => Mo_mosts_L48 T this n30 V41 (v31 + 1)))
def Mo_mosts (T : Tx) (V : Vx) (this : Nat) (p1 : Int32) : Option (Vx) :=
  bd (Mo_explores T V this p1) (fun V2 => bd (Mo_mosts_L7 T this p1 FU V2 0) (fun V8 => Mo_mosts_L48 T this FU V8 1))
def Mo_leasts_L7 (T : Tx) (V2 : Vx) (this : Nat) (p1 : Int32) : Nat → Int32 → Option (Int32)
  | 0, _ => none
  | n3 + 1, v4 => (if 10 ≤ v4 then some v4 else bd (ck T 11 (fR V2 912 this)) (fun r10 => gd (inb (512 * v4) (ln T r10)) ((if 0 ≤ (aI V2 r10 (512 * v4).toNatClampNeg) then some v4 else Mo_leasts_L7 T V2 this p1 n3 (v4 + 1)))))
def Mo_leasts_L92 (T : Tx) (V30 : Vx) (this : Nat) (y7 : Int32) (v28 : Int32) (v29 : Int32) (x39 : Int32) : Nat → Int32 → Option (Int32)
  | 0, _ => none
  | n41 + 1, v42 => bd (ck T 11 (fR V30 910 this)) (fun r47 => gd (inb ((12 * v28) + v42) (ln T r47)) ((if (aI V30 r47 ((12 * v28) + v42).toNatClampNeg) < 0 then Mo_leasts_L92 T V30 this y7 v28 v29 x39 n41 (v42 + 1) else bd (ck T 11 (fR V30 912 this)) (fun r53 => bd (ck T 11 (fR V30 910 this)) (fun r57 => gd (inb ((12 * v28) + v42) (ln T r57)) (gd (inb ((512 * ((y7 - v29) - 1)) + (aI V30 r57 ((12 * v28) + v42).toNatClampNeg)) (ln T r53)) ((if (aI V30 r53 ((512 * ((y7 - v29) - 1)) + (aI V30 r57 ((12 * v28) + v42).toNatClampNeg)).toNatClampNeg) < 0 then Mo_leasts_L92 T V30 this y7 v28 v29 x39 n41 (v42 + 1) else bd (ck T 11 (fR V30 912 this)) (fun r64 => bd (ck T 11 (fR V30 910 this)) (fun r68 => gd (inb ((12 * v28) + v42) (ln T r68)) (gd (inb ((512 * ((y7 - v29) - 1)) + (aI V30 r68 ((12 * v28) + v42).toNatClampNeg)) (ln T r64)) (bd (Mo_soundLong T V30 this v42) (fun r75 => (if ((aI V30 r64 ((512 * ((y7 - v29) - 1)) + (aI V30 r68 ((12 * v28) + v42).toNatClampNeg)).toNatClampNeg) + r75) = x39 then some v42 else Mo_leasts_L92 T V30 this y7 v28 v29 x39 n41 (v42 + 1)))))))))))))))
def Mo_leasts_L66 (T : Tx) (this : Nat) (y7 : Int32) : Nat → Vx → Int32 → Int32 → Option (Int32 × Vx)
  | 0, _, _, _ => none
  | n27 + 1, V30, v28, v29 => (if y7 ≤ v29 then some (y7, V30) else bd (ck T 11 (fR V30 912 this)) (fun r34 => gd (inb ((512 * (y7 - v29)) + v28) (ln T r34)) (lt (aI V30 r34 ((512 * (y7 - v29)) + v28).toNatClampNeg : Int32) (fun x39 => bd (Mo_leasts_L92 T V30 this y7 v28 v29 x39 FU 0) (fun y45 => bd (ck T 11 (fR V30 913 this)) (fun r78 => gd (inb v29 (ln T r78)) (lt (wI V30 r78 v29.toNatClampNeg y45) (fun V83 => bd (ck T 11 (fR V83 910 this)) (fun r85 => gd (inb ((12 * v28) + y45) (ln T r85)) (lt (aI V83 r85 ((12 * v28) + y45).toNatClampNeg : Int32) (fun x90 => Mo_leasts_L66 T this y7 n27 V83 x90 (v29 + 1))))))))))))
def Mo_leasts (T : Tx) (V : Vx) (this : Nat) (p1 : Int32) : Option (Int32 × Vx) :=
  bd (Mo_mosts T V this p1) (fun V2 => bd (Mo_leasts_L7 T V2 this p1 FU 1) (fun y7 => (if y7 = 10 then some ((-4), V2) else bd (Mo_long1 T V2 this p1) (fun r19 => bd (ck T 11 (fR V2 912 this)) (fun r20 => gd (inb (512 * y7) (ln T r20)) (lt (sI V2 914 this (r19 - (aI V2 r20 (512 * y7).toNatClampNeg))) (fun V25 => Mo_leasts_L66 T this y7 FU V25 0 0)))))))
def Mo_markOf_L2 (T : Tx) (V : Vx) (this : Nat) (p1 : Int32) : Nat → Int32 → Option (Int32)
  | 0, _ => none
  | n1 + 1, v2 => bd (ck T 11 (fR V 903 this)) (fun r5 => gd (inb 164 (ln T r5)) ((if (aI V r5 (164 : Int32).toNatClampNeg) ≤ v2 then some (-4) else bd (ck T 11 (fR V 903 this)) (fun r11 => gd (inb (7 * v2) (ln T r11)) ((if (aI V r11 (7 * v2).toNatClampNeg) = 2 then bd (ck T 11 (fR V 903 this)) (fun r17 => gd (inb ((7 * v2) + 1) (ln T r17)) ((if (aI V r17 ((7 * v2) + 1).toNatClampNeg) = p1 then bd (Mo_isStruck T V this v2) (fun r24 => (if r24 = 0 then some v2 else Mo_markOf_L2 T V this p1 n1 (v2 + 1))) else Mo_markOf_L2 T V this p1 n1 (v2 + 1)))) else Mo_markOf_L2 T V this p1 n1 (v2 + 1)))))))
def Mo_markOf (T : Tx) (V : Vx) (this : Nat) (p1 : Int32) : Option (Int32) :=
  Mo_markOf_L2 T V this p1 FU 0
def Mo_clear (T : Tx) (V : Vx) (this : Nat) (p1 : Int32) : Option (Int32 × Vx) :=
  bd2 (Mo_leasts T V this p1) (fun r3 V2 => (if r3 = (-4) then some (0, V2) else bd (ck T 11 (fR V2 913 this)) (fun r5 => bd (Mo_reads T V2 this r5 0 r3) (fun r10 => (if r10 = ((1 : Int32) <<< (p1 &&& 31)) then some (1, V2) else bd (ck T 11 (fR V2 903 this)) (fun r12 => gd (inb (84 + (10 * p1)) (ln T r12)) (bd (Mo_markOf T V2 this (aI V2 r12 (84 + (10 * p1)).toNatClampNeg)) (fun r18 => (if r18 = (-4) then some (0, V2) else (if r3 = 9 then some (0, V2) else bd (ck T 11 (fR V2 913 this)) (fun r21 => gd (inb r3 (ln T r21)) (lt (wI V2 r21 r3.toNatClampNeg r18) (fun V26 => bd (ck T 11 (fR V26 913 this)) (fun r28 => bd (Mo_reads T V26 this r28 0 (r3 + 1)) (fun r33 => (if r33 = ((1 : Int32) <<< (p1 &&& 31)) then some (2, V26) else some (0, V26)))))))))))))))))
def Mo_areMixed_L9 (T : Tx) (this : Nat) (p2 : Int32) (r3 : Int32) : Nat → Vx → Int32 → Option (Vx)
  | 0, _, _ => none
  | n4 + 1, V6, v5 => (if 10 ≤ v5 then some V6 else bd (ck T 11 (fR V6 915 this)) (fun r12 => bd (ck T 11 (fR V6 913 this)) (fun r16 => gd (inb v5 (ln T r16)) (gd (inb v5 (ln T r12)) (lt (wI V6 r12 v5.toNatClampNeg (aI V6 r16 v5.toNatClampNeg)) (fun V22 => Mo_areMixed_L9 T this p2 r3 n4 V22 (v5 + 1)))))))
def Mo_areMixed_L65 (T : Tx) (V26 : Vx) (this : Nat) (r3 : Int32) : Nat → Int32 → Int32 → Option (Int32 × Vx)
  | 0, _, _ => none
  | n34 + 1, v35, v36 => (if r3 ≤ v36 then gd (zo v35) (some (v35, V26)) else (if v35 = 0 then gd (zo v35) (some (v35, V26)) else bd (ck T 11 (fR V26 915 this)) (fun r43 => gd (inb v36 (ln T r43)) (bd (ck T 11 (fR V26 913 this)) (fun r48 => gd (inb v36 (ln T r48)) ((if (aI V26 r43 v36.toNatClampNeg) = (aI V26 r48 v36.toNatClampNeg) then Mo_areMixed_L65 T V26 this r3 n34 1 (v36 + 1) else Mo_areMixed_L65 T V26 this r3 n34 0 (v36 + 1))))))))
def Mo_areMixed (T : Tx) (V : Vx) (this : Nat) (p1 : Int32) (p2 : Int32) : Option (Int32 × Vx) :=
  bd2 (Mo_leasts T V this p1) (fun r3 V2 => bd (Mo_areMixed_L9 T this p2 r3 FU V2 0) (fun V9 => bd2 (Mo_leasts T V9 this p2) (fun r27 V26 => bd ((if r3 = (-4) then some 0 else (if r3 = r27 then some 1 else some 0))) (fun (x28 : Int32) => Mo_areMixed_L65 T V26 this r3 FU x28 0))))
def Mo_mixed_L4 (T : Tx) (this : Nat) (p1 : Int32) : Nat → Vx → Int32 → Int32 → Option (Int32 × Vx)
  | 0, _, _, _ => none
  | n1 + 1, V4, v2, v3 => bd (ck T 11 (fR V4 903 this)) (fun r7 => gd (inb 165 (ln T r7)) ((if (aI V4 r7 (165 : Int32).toNatClampNeg) ≤ v3 then some (v2, V4) else (if v3 = p1 then lt (v2 + 0 : Int32) (fun x14 => Mo_mixed_L4 T this p1 n1 V4 x14 (v3 + 1)) else bd2 (Mo_areMixed T V4 this p1 v3) (fun r18 V17 => (if r18 = 0 then lt (v2 + 0 : Int32) (fun x20 => Mo_mixed_L4 T this p1 n1 V17 x20 (v3 + 1)) else lt (v2 + 1 : Int32) (fun x22 => Mo_mixed_L4 T this p1 n1 V17 x22 (v3 + 1))))))))
def Mo_mixed (T : Tx) (V : Vx) (this : Nat) (p1 : Int32) : Option (Int32 × Vx) :=
  Mo_mixed_L4 T this p1 FU V 0 0
def Mo_leastWith_L29 (T : Tx) (V14 : Vx) (this : Nat) (p1 : Int32) (v2 : Int32) (v3 : Int32) (r15 : Int32) : Nat → Int32 → Int32 → Option (Int32)
  | 0, _, _ => none
  | n16 + 1, v17, v18 => (if r15 ≤ v18 then some v17 else (if v17 = 0 then bd (ck T 11 (fR V14 913 this)) (fun r25 => gd (inb v18 (ln T r25)) ((if (aI V14 r25 v18.toNatClampNeg) = p1 then Mo_leastWith_L29 T V14 this p1 v2 v3 r15 n16 1 (v18 + 1) else Mo_leastWith_L29 T V14 this p1 v2 v3 r15 n16 0 (v18 + 1)))) else Mo_leastWith_L29 T V14 this p1 v2 v3 r15 n16 1 (v18 + 1)))
def Mo_leastWith_L4 (T : Tx) (this : Nat) (p1 : Int32) : Nat → Vx → Int32 → Int32 → Option (Int32 × Vx)
  | 0, _, _, _ => none
  | n1 + 1, V4, v2, v3 => bd (ck T 11 (fR V4 903 this)) (fun r7 => gd (inb 165 (ln T r7)) ((if (aI V4 r7 (165 : Int32).toNatClampNeg) ≤ v3 then some (v2, V4) else bd2 (Mo_leasts T V4 this v3) (fun r15 V14 => bd (Mo_leastWith_L29 T V14 this p1 v2 v3 r15 FU 0 0) (fun y21 => (if y21 = 0 then lt (v2 + 0 : Int32) (fun x33 => Mo_leastWith_L4 T this p1 n1 V14 x33 (v3 + 1)) else lt (v2 + 1 : Int32) (fun x35 => Mo_leastWith_L4 T this p1 n1 V14 x35 (v3 + 1))))))))
def Mo_leastWith (T : Tx) (V : Vx) (this : Nat) (p1 : Int32) : Option (Int32 × Vx) :=
  Mo_leastWith_L4 T this p1 FU V 0 0
def Mo_sign (T : Tx) (V : Vx) (this : Nat) (p1 : Int32) (p2 : Int32) : Option (Int32 × Vx) :=
  bd (Mo_isSign T V this p1) (fun r2 => (if r2 = 0 then some ((-1), V) else bd (Mo_in T V (Int32.toInt64 p2) 0 4) (fun r5 => (if r5 = 0 then some ((-1), V) else (if 3 ≤ p2 then (if p2 = 3 then bd (Mo_isStruck T V this p1) (fun r13 => (if r13 = 0 then some (0, V) else some (1, V))) else bd2 (Mo_leastWith T V this p1) (fun r11 V10 => some (r11, V10))) else bd (ck T 11 (fR V 903 this)) (fun r15 => gd (inb ((7 * p1) + p2) (ln T r15)) (some ((aI V r15 ((7 * p1) + p2).toNatClampNeg), V))))))))
def Mo_word_L27 (T : Tx) (V : Vx) (this : Nat) (p1 : Int32) (p2 : Int32) : Nat → Int32 → Int32 → Option (Int32)
  | 0, _, _ => none
  | n7 + 1, v8, v9 => bd (Mo_long1 T V this p1) (fun r15 => (if r15 ≤ v9 then some v8 else bd (Mo_isVowel T V this p1 v9) (fun r18 => (if r18 = 0 then lt (v8 + 0 : Int32) (fun x20 => Mo_word_L27 T V this p1 p2 n7 x20 (v9 + 1)) else lt (v8 + 1 : Int32) (fun x22 => Mo_word_L27 T V this p1 p2 n7 x22 (v9 + 1))))))
def Mo_word (T : Tx) (V : Vx) (this : Nat) (p1 : Int32) (p2 : Int32) : Option (Int32 × Vx) :=
  bd (Mo_isWord T V this p1) (fun r2 => (if r2 = 0 then some ((-1), V) else bd (Mo_in T V (Int32.toInt64 p2) 0 4) (fun r5 => (if r5 = 0 then some ((-1), V) else bd (Mo_word_L27 T V this p1 p2 FU 0 0) (fun y12 => (if 2 ≤ p2 then (if p2 = 2 then some (y12, V) else (if p2 = 3 then bd2 (Mo_clear T V this p1) (fun r33 V32 => some (r33, V32)) else bd2 (Mo_mixed T V this p1) (fun r30 V29 => some (r30, V29)))) else bd (ck T 11 (fR V 903 this)) (fun r34 => gd (inb ((84 + (10 * p1)) + p2) (ln T r34)) (some ((aI V r34 ((84 + (10 * p1)) + p2).toNatClampNeg), V)))))))))
def Mo_least (T : Tx) (V : Vx) (this : Nat) (p1 : Int32) (p2 : Int32) : Option (Int32 × Vx) :=
  bd (Mo_isWord T V this p1) (fun r2 => (if r2 = 0 then some ((-1), V) else (if (-2) ≤ p2 then bd2 (Mo_leasts T V this p1) (fun r7 V6 => (if r7 = (-4) then some ((-4), V6) else (if p2 < r7 then (if p2 = (-1) then some (r7, V6) else (if p2 = (-2) then some ((fI V6 914 this), V6) else bd (ck T 11 (fR V6 913 this)) (fun r12 => gd (inb p2 (ln T r12)) (some ((aI V6 r12 p2.toNatClampNeg), V6))))) else some ((-4), V6)))) else some ((-1), V))))
def Mo_mark (T : Tx) (V : Vx) (this : Nat) (p1 : Int32) : Option (Int32 × Vx) :=
  bd (Mo_isWord T V this p1) (fun r2 => (if r2 = 0 then some ((-1), V) else bd2 (Mo_clear T V this p1) (fun r6 V5 => (if r6 = 2 then bd (ck T 11 (fR V5 903 this)) (fun r8 => gd (inb (84 + (10 * p1)) (ln T r8)) (bd (Mo_markOf T V5 this (aI V5 r8 (84 + (10 * p1)).toNatClampNeg)) (fun r14 => some (r14, V5)))) else some ((-4), V5)))))
def Mo_writings_L16 (T : Tx) (V : Vx) (this : Nat) (p1 : Int32) : Nat → Int32 → Int32 → Option (Int32)
  | 0, _, _ => none
  | n4 + 1, v5, v6 => bd (ck T 11 (fR V 903 this)) (fun r11 => gd (inb 164 (ln T r11)) ((if (aI V r11 (164 : Int32).toNatClampNeg) ≤ v6 then some v5 else bd (ck T 11 (fR V 903 this)) (fun r17 => gd (inb (7 * v6) (ln T r17)) ((if (aI V r17 (7 * v6).toNatClampNeg) = 2 then bd (ck T 11 (fR V 903 this)) (fun r25 => gd (inb ((7 * v6) + 1) (ln T r25)) (bd (ck T 11 (fR V 903 this)) (fun r30 => gd (inb (84 + (10 * p1)) (ln T r30)) ((if (aI V r25 ((7 * v6) + 1).toNatClampNeg) = (aI V r30 (84 + (10 * p1)).toNatClampNeg) then bd (Mo_isStruck T V this v6) (fun r39 => (if r39 = 0 then lt (v5 + 1 : Int32) (fun x43 => Mo_writings_L16 T V this p1 n4 x43 (v6 + 1)) else lt (v5 + 0 : Int32) (fun x41 => Mo_writings_L16 T V this p1 n4 x41 (v6 + 1)))) else lt (v5 + 0 : Int32) (fun x36 => Mo_writings_L16 T V this p1 n4 x36 (v6 + 1))))))) else lt (v5 + 0 : Int32) (fun x23 => Mo_writings_L16 T V this p1 n4 x23 (v6 + 1))))))))
def Mo_writings_L96 (T : Tx) (this : Nat) (p1 : Int32) (y9 : Int32) : Nat → Vx → Int32 → Option (Vx)
  | 0, _, _ => none
  | n48 + 1, V50, v49 => (if 512 ≤ v49 then some V50 else bd (ck T 12 (fR V50 916 this)) (fun r56 => (if v49 = 0 then gd (inb v49 (ln T r56)) (lt (wL V50 r56 v49.toNatClampNeg 1) (fun V65 => Mo_writings_L96 T this p1 y9 n48 V65 (v49 + 1))) else gd (inb v49 (ln T r56)) (lt (wL V50 r56 v49.toNatClampNeg 0) (fun V62 => Mo_writings_L96 T this p1 y9 n48 V62 (v49 + 1))))))
def Mo_writings_L164 (T : Tx) (this : Nat) (p1 : Int32) (y9 : Int32) (v69 : Int64) (v70 : Int32) (x75 : Int32) (x80 : Int32) : Nat → Vx → Int32 → Option (Vx)
  | 0, _, _ => none
  | n82 + 1, V84, v83 => (if (fI V84 911 this) ≤ v83 then some V84 else bd (ck T 12 (fR V84 916 this)) (fun r90 => gd (inb (x80 + v83) (ln T r90)) (lt (wL V84 r90 (x80 + v83).toNatClampNeg 0) (fun V95 => Mo_writings_L164 T this p1 y9 v69 v70 x75 x80 n82 V95 (v83 + 1)))))
def Mo_writings_L205 (T : Tx) (this : Nat) (p1 : Int32) (y9 : Int32) (v69 : Int64) (v70 : Int32) (x75 : Int32) (x80 : Int32) (v99 : Int32) : Nat → Vx → Int32 → Option (Vx)
  | 0, _, _ => none
  | n106 + 1, V108, v107 => bd (ck T 11 (fR V108 903 this)) (fun r113 => gd (inb 164 (ln T r113)) ((if (aI V108 r113 (164 : Int32).toNatClampNeg) ≤ v107 then some V108 else bd (ck T 11 (fR V108 910 this)) (fun r119 => gd (inb ((12 * v99) + v107) (ln T r119)) ((if (aI V108 r119 ((12 * v99) + v107).toNatClampNeg) < 0 then Mo_writings_L205 T this p1 y9 v69 v70 x75 x80 v99 n106 V108 (v107 + 1) else bd (ck T 12 (fR V108 916 this)) (fun r125 => bd (ck T 11 (fR V108 910 this)) (fun r129 => gd (inb ((12 * v99) + v107) (ln T r129)) (gd (inb (x80 + (aI V108 r129 ((12 * v99) + v107).toNatClampNeg)) (ln T r125)) (bd (ck T 12 (fR V108 916 this)) (fun r135 => gd (inb (x75 + v99) (ln T r135)) (gd (inb (x80 + (aI V108 r129 ((12 * v99) + v107).toNatClampNeg)) (ln T r125)) (lt (wL V108 r125 (x80 + (aI V108 r129 ((12 * v99) + v107).toNatClampNeg)).toNatClampNeg ((aL V108 r125 (x80 + (aI V108 r129 ((12 * v99) + v107).toNatClampNeg)).toNatClampNeg) + (aL V108 r135 (x75 + v99).toNatClampNeg))) (fun V141 => Mo_writings_L205 T this p1 y9 v69 v70 x75 x80 v99 n106 V141 (v107 + 1)))))))))))))))
def Mo_writings_L193 (T : Tx) (this : Nat) (p1 : Int32) (y9 : Int32) (v69 : Int64) (v70 : Int32) (x75 : Int32) (x80 : Int32) : Nat → Vx → Int32 → Option (Vx)
  | 0, _, _ => none
  | n98 + 1, V100, v99 => (if (fI V100 911 this) ≤ v99 then some V100 else bd (Mo_writings_L205 T this p1 y9 v69 v70 x75 x80 v99 FU V100 0) (fun V111 => Mo_writings_L193 T this p1 y9 v69 v70 x75 x80 n98 V111 (v99 + 1)))
def Mo_writings_L283 (T : Tx) (V103 : Vx) (this : Nat) (p1 : Int32) (y9 : Int32) (v70 : Int32) (x80 : Int32) : Nat → Int64 → Int32 → Option (Int64)
  | 0, _, _ => none
  | n145 + 1, v146, v147 => (if (fI V103 911 this) ≤ v147 then some v146 else bd (ck T 11 (fR V103 908 this)) (fun r153 => gd (inb v147 (ln T r153)) (bd (Mo_isWhole T V103 this p1 (aI V103 r153 v147.toNatClampNeg)) (fun r159 => (if r159 = 0 then lt (v146 + 0 : Int64) (fun x161 => Mo_writings_L283 T V103 this p1 y9 v70 x80 n145 x161 (v147 + 1)) else bd (ck T 12 (fR V103 916 this)) (fun r163 => gd (inb (x80 + v147) (ln T r163)) (bd ((if 9 ≤ v70 then some 1 else some (1 + y9))) (fun (x168 : Int32) => lt (v146 + ((aL V103 r163 (x80 + v147).toNatClampNeg) * (Int32.toInt64 x168)) : Int64) (fun x173 => Mo_writings_L283 T V103 this p1 y9 v70 x80 n145 x173 (v147 + 1))))))))))
def Mo_writings_L129 (T : Tx) (this : Nat) (p1 : Int32) (y9 : Int32) : Nat → Vx → Int64 → Int32 → Option (Int64 × Vx)
  | 0, _, _, _ => none
  | n68 + 1, V71, v69, v70 => (if 10 ≤ v70 then some (v69, V71) else bd ((if (v70 - v70 / 2 * 2) = 1 then some 0 else some 512)) (fun (x75 : Int32) => lt (512 - x75 : Int32) (fun x80 => bd (Mo_writings_L164 T this p1 y9 v69 v70 x75 x80 FU V71 0) (fun V87 => bd (Mo_writings_L193 T this p1 y9 v69 v70 x75 x80 FU V87 0) (fun V103 => bd (Mo_writings_L283 T V103 this p1 y9 v70 x80 FU v69 0) (fun y150 => Mo_writings_L129 T this p1 y9 n68 V103 y150 (v70 + 1)))))))
def Mo_writings (T : Tx) (V : Vx) (this : Nat) (p1 : Int32) : Option (Int64 × Vx) :=
  bd (Mo_isWord T V this p1) (fun r2 => (if r2 = 0 then some ((-1), V) else bd (Mo_writings_L16 T V this p1 FU 0 0) (fun y9 => bd (Mo_explores T V this p1) (fun V47 => bd (Mo_writings_L96 T this p1 y9 FU V47 0) (fun V53 => Mo_writings_L129 T this p1 y9 FU V53 0 1)))))
def Mo_reckons_L47 (T : Tx) (this : Nat) (x6 : Int32) (v25 : Int32) : Nat → Vx → Int32 → Option (Vx)
  | 0, _, _ => none
  | n44 + 1, V46, v45 => (if 10 ≤ v45 then some V46 else (if x6 < (v25 + v45) then some V46 else bd (ck T 11 (fR V46 905 this)) (fun r53 => bd (Mo_reads T V46 this r53 (3 + v25) v45) (fun r58 => bd (ck T 11 (fR V46 919 this)) (fun r59 => gd (inb ((10 * v25) + v45) (ln T r59)) (lt (wI V46 r59 ((10 * v25) + v45).toNatClampNeg r58) (fun V64 => bd (ck T 12 (fR V64 918 this)) (fun r66 => gd (inb v25 (ln T r66)) (bd (ck T 12 (fR V64 918 this)) (fun r71 => gd (inb (v25 + v45) (ln T r71)) (bd (Mo_bits T V64 r58) (fun r77 => gd (inb v25 (ln T r66)) (lt (wL V64 r66 v25.toNatClampNeg ((aL V64 r66 v25.toNatClampNeg) + ((aL V64 r71 (v25 + v45).toNatClampNeg) * (Int32.toInt64 r77)))) (fun V79 => bd (ck T 11 (fR V79 917 this)) (fun r81 => (if r58 ≤ 0 then bd (ck T 11 (fR V79 917 this)) (fun r86 => gd (inb v25 (ln T r86)) (gd (inb v25 (ln T r81)) (lt (wI V79 r81 v25.toNatClampNeg (aI V79 r86 v25.toNatClampNeg)) (fun V92 => Mo_reckons_L47 T this x6 v25 n44 V92 (v45 + 1))))) else bd (ck T 11 (fR V79 917 this)) (fun r94 => gd (inb (v25 + v45) (ln T r94)) (bd (ck T 11 (fR V79 917 this)) (fun r99 => gd (inb v25 (ln T r99)) ((if (aI V79 r99 v25.toNatClampNeg) ≤ ((aI V79 r94 (v25 + v45).toNatClampNeg) + 1) then bd (ck T 11 (fR V79 917 this)) (fun r105 => gd (inb v25 (ln T r105)) (gd (inb v25 (ln T r81)) (lt (wI V79 r81 v25.toNatClampNeg (aI V79 r105 v25.toNatClampNeg)) (fun V111 => Mo_reckons_L47 T this x6 v25 n44 V111 (v45 + 1))))) else bd (ck T 11 (fR V79 917 this)) (fun r113 => gd (inb (v25 + v45) (ln T r113)) (gd (inb v25 (ln T r81)) (lt (wI V79 r81 v25.toNatClampNeg ((aI V79 r113 (v25 + v45).toNatClampNeg) + 1)) (fun V119 => Mo_reckons_L47 T this x6 v25 n44 V119 (v45 + 1))))))))))))))))))))))))))
def Mo_reckons_L25 (T : Tx) (this : Nat) (x6 : Int32) : Nat → Vx → Int32 → Option (Vx)
  | 0, _, _ => none
  | n24 + 1, V26, v25 => (if v25 < 0 then some V26 else bd (ck T 11 (fR V26 917 this)) (fun r30 => gd (inb v25 (ln T r30)) (lt (wI V26 r30 v25.toNatClampNeg 1000) (fun V35 => bd (ck T 12 (fR V35 918 this)) (fun r37 => gd (inb v25 (ln T r37)) (lt (wL V35 r37 v25.toNatClampNeg 0) (fun V42 => bd (Mo_reckons_L47 T this x6 v25 FU V42 1) (fun V49 => Mo_reckons_L25 T this x6 n24 V49 (v25 + (-1))))))))))
def Mo_reckons (T : Tx) (V : Vx) (this : Nat) : Option (Vx) :=
  bd (ck T 11 (fR V 905 this)) (fun r1 => gd (inb 2 (ln T r1)) (lt (aI V r1 (2 : Int32).toNatClampNeg : Int32) (fun x6 => bd (ck T 11 (fR V 917 this)) (fun r8 => gd (inb x6 (ln T r8)) (lt (wI V r8 x6.toNatClampNeg 0) (fun V13 => bd (ck T 12 (fR V13 918 this)) (fun r15 => gd (inb x6 (ln T r15)) (lt (wL V13 r15 x6.toNatClampNeg 1) (fun V20 => lt (x6 - 1 : Int32) (fun x22 => Mo_reckons_L25 T this x6 FU V20 x22))))))))))
def Mo_rowFrom_L2 (T : Tx) (V : Vx) (this : Nat) (p1 : Int32) : Nat → Int32 → Option (Int32)
  | 0, _ => none
  | n1 + 1, v2 => bd (ck T 11 (fR V 919 this)) (fun r5 => gd (inb ((10 * p1) + v2) (ln T r5)) ((if (aI V r5 ((10 * p1) + v2).toNatClampNeg) = 0 then Mo_rowFrom_L2 T V this p1 n1 (v2 + 1) else bd (ck T 11 (fR V 917 this)) (fun r11 => gd (inb (p1 + v2) (ln T r11)) (bd (ck T 11 (fR V 917 this)) (fun r16 => gd (inb p1 (ln T r16)) ((if ((aI V r11 (p1 + v2).toNatClampNeg) + 1) = (aI V r16 p1.toNatClampNeg) then some v2 else Mo_rowFrom_L2 T V this p1 n1 (v2 + 1)))))))))
def Mo_rowFrom (T : Tx) (V : Vx) (this : Nat) (p1 : Int32) : Option (Int32) :=
  Mo_rowFrom_L2 T V this p1 FU 1
def Mo_carved (T : Tx) (V : Vx) (this : Nat) (p1 : Int32) : Option (Int32) :=
  (if 0 ≤ p1 then bd (ck T 11 (fR V 905 this)) (fun r2 => gd (inb 2 (ln T r2)) ((if (aI V r2 (2 : Int32).toNatClampNeg) ≤ p1 then some (-4) else bd (ck T 11 (fR V 905 this)) (fun r8 => gd (inb (3 + p1) (ln T r8)) (some (aI V r8 (3 + p1).toNatClampNeg)))))) else some (-1))
def Mo_read (T : Tx) (V : Vx) (this : Nat) (p1 : Int32) (p2 : Int32) : Option (Int32) :=
  (if p1 < 0 then some (-1) else bd (Mo_in T V (Int32.toInt64 p2) 1 9) (fun r3 => (if r3 = 0 then some (-1) else bd (ck T 11 (fR V 905 this)) (fun r5 => gd (inb 2 (ln T r5)) ((if (aI V r5 (2 : Int32).toNatClampNeg) < (p1 + p2) then some (-2) else (if p1 ≤ 16 then bd (ck T 11 (fR V 905 this)) (fun r12 => bd (Mo_reads T V this r12 (3 + p1) p2) (fun r17 => some r17)) else some (-2))))))))
def Mo_readings (T : Tx) (V : Vx) (this : Nat) : Option (Int64 × Vx) :=
  bd (Mo_reckons T V this) (fun V2 => bd (ck T 12 (fR V2 918 this)) (fun r3 => gd (inb 0 (ln T r3)) (some ((aL V2 r3 (0 : Int32).toNatClampNeg), V2))))
def Mo_begins_L33 (T : Tx) (V2 : Vx) (this : Nat) (p1 : Int32) : Nat → Int32 → Int32 → Option (Int32 × Vx)
  | 0, _, _ => none
  | n15 + 1, v16, v17 => (if p1 ≤ v17 then some (v16, V2) else bd (Mo_rowFrom T V2 this v16) (fun r22 => lt (v16 + r22 : Int32) (fun x23 => Mo_begins_L33 T V2 this p1 n15 x23 (v17 + 1))))
def Mo_begins (T : Tx) (V : Vx) (this : Nat) (p1 : Int32) : Option (Int32 × Vx) :=
  bd (Mo_reckons T V this) (fun V2 => bd (ck T 11 (fR V2 917 this)) (fun r3 => gd (inb 0 (ln T r3)) ((if 999 < (aI V2 r3 (0 : Int32).toNatClampNeg) then some ((-4), V2) else bd (ck T 11 (fR V2 917 this)) (fun r9 => gd (inb 0 (ln T r9)) ((if p1 < (aI V2 r9 (0 : Int32).toNatClampNeg) then Mo_begins_L33 T V2 this p1 FU 0 0 else some ((-4), V2))))))))
def Mo_reading_L70 (T : Tx) (V3 : Vx) (x14 : Int32) : Nat → Int32 → Option (Int32 × Vx)
  | 0, _ => none
  | n16 + 1, v17 => (if ((x14 >>> (v17 &&& 31)) &&& 1) = 0 then Mo_reading_L70 T V3 x14 n16 (v17 + 1) else some (v17, V3))
def Mo_reading (T : Tx) (V : Vx) (this : Nat) (p1 : Int32) : Option (Int32 × Vx) :=
  (if (-1) ≤ p1 then bd2 (Mo_begins T V this p1) (fun r4 V3 => (if p1 = (-1) then bd (ck T 11 (fR V3 917 this)) (fun r21 => gd (inb 0 (ln T r21)) ((if (aI V3 r21 (0 : Int32).toNatClampNeg) ≤ 999 then bd (ck T 11 (fR V3 917 this)) (fun r27 => gd (inb 0 (ln T r27)) (some ((aI V3 r27 (0 : Int32).toNatClampNeg), V3))) else some ((-4), V3)))) else (if r4 = (-4) then some ((-4), V3) else bd (ck T 11 (fR V3 919 this)) (fun r7 => bd (Mo_rowFrom T V3 this r4) (fun r12 => gd (inb ((10 * r4) + r12) (ln T r7)) (lt (aI V3 r7 ((10 * r4) + r12).toNatClampNeg : Int32) (fun x14 => Mo_reading_L70 T V3 x14 FU 0))))))) else some ((-1), V))
def Mo_cut (T : Tx) (V : Vx) (this : Nat) (p1 : Int32) : Option (Int32 × Vx) :=
  (if 0 ≤ p1 then bd2 (Mo_begins T V this p1) (fun r4 V3 => (if r4 = (-4) then some ((-4), V3) else bd (Mo_rowFrom T V3 this r4) (fun r7 => some (r7, V3)))) else some ((-1), V))
def Mo_count_L76 (T : Tx) (this : Nat) (p1 : Int32) (x31 : Int32) (x41 : Int32) (v5 : Int32) : Nat → Vx → Int32 → Int32 → Option (Int32 × Vx)
  | 0, _, _, _ => none
  | n43 + 1, V46, v44, v45 => (if v5 ≤ v45 then some (v44, V46) else bd2 (Mo_areMixed T V46 this v45 v5) (fun r55 V54 => (if r55 = 0 then lt (v44 + 0 : Int32) (fun x57 => Mo_count_L76 T this p1 x31 x41 v5 n43 V54 x57 (v45 + 1)) else lt (v44 + 1 : Int32) (fun x59 => Mo_count_L76 T this p1 x31 x41 v5 n43 V54 x59 (v45 + 1)))))
def Mo_count_L10 (T : Tx) (this : Nat) (p1 : Int32) : Nat → Vx → Int32 → Int32 → Int32 → Int32 → Option (Int32 × Int32 × Int32 × Vx)
  | 0, _, _, _, _, _ => none
  | n1 + 1, V6, v2, v3, v4, v5 => bd (ck T 11 (fR V6 903 this)) (fun r14 => gd (inb 165 (ln T r14)) ((if (aI V6 r14 (165 : Int32).toNatClampNeg) ≤ v5 then some (v2, v3, v4, V6) else bd (Mo_in T V6 (Int32.toInt64 p1) 5 7) (fun r21 => (if r21 = 0 then some (v2, v3, v4, V6) else bd2 (Mo_leasts T V6 this v5) (fun r25 V24 => bd ((if r25 = (-4) then some 0 else some 1)) (fun (x26 : Int32) => lt (v2 + x26 : Int32) (fun x31 => bd2 (Mo_clear T V24 this v5) (fun r35 V34 => bd ((if r35 ≤ 0 then some 0 else some 1)) (fun (x36 : Int32) => lt (v3 + x36 : Int32) (fun x41 => bd2 (Mo_count_L76 T this p1 x31 x41 v5 FU V34 v4 0) (fun y49 V50 => Mo_count_L10 T this p1 n1 V50 x31 x41 y49 (v5 + 1)))))))))))))
def Mo_count (T : Tx) (V : Vx) (this : Nat) (p1 : Int32) : Option (Int32 × Vx) :=
  bd4 (Mo_count_L10 T this p1 FU V 0 0 0 0) (fun y9 y10 y11 V12 => (if p1 = 0 then bd (ck T 11 (fR V12 903 this)) (fun r64 => gd (inb 164 (ln T r64)) (some ((aI V12 r64 (164 : Int32).toNatClampNeg), V12))) else if p1 = 1 then bd (ck T 11 (fR V12 903 this)) (fun r71 => gd (inb 165 (ln T r71)) (some ((aI V12 r71 (165 : Int32).toNatClampNeg), V12))) else if p1 = 2 then bd (ck T 11 (fR V12 905 this)) (fun r78 => gd (inb 0 (ln T r78)) (some ((aI V12 r78 (0 : Int32).toNatClampNeg), V12))) else if p1 = 3 then bd (ck T 11 (fR V12 905 this)) (fun r85 => gd (inb 1 (ln T r85)) (bd (Mo_bits T V12 (aI V12 r85 (1 : Int32).toNatClampNeg)) (fun r91 => some (r91, V12)))) else if p1 = 4 then bd (ck T 11 (fR V12 905 this)) (fun r94 => gd (inb 2 (ln T r94)) (some ((aI V12 r94 (2 : Int32).toNatClampNeg), V12))) else if p1 = 5 then some (y9, V12) else if p1 = 6 then some (y10, V12) else if p1 = 7 then some (y11, V12) else if p1 = 8 then some ((fI V12 907 this), V12) else if p1 = 9 then some ((fI V12 900 this), V12) else some ((-1), V12)))
