/-! ===== the law's loop ===== -/
theorem lgc_self (a : Int64) : lg_cmp a a = 0 := by
  unfold lg_cmp
  rw [if_neg (fun z => by
    have z : a < a := z
    rw [Int64.lt_iff_toInt_lt] at z
    omega), if_pos rfl]
set_option maxHeartbeats 4000000 in
theorem law_l {xs : Nat → Int32} {Ln : Nat} (hLn : Ln ≤ 1536) {T : Tx} (k8 : kd T 0 = 8) (k9 : kd T 166 = 9) : ∀ (d k i : Nat) (V : Vx), Ln < i + 3 + 3 * d → i < 10000 → d < k → Rel T V → Lw_law_L18 xs Ln T 0 166 k V (nI i) = some 1 := by
  have hle : ∀ i, i < 10000 → ((nI Ln - 3 < nI i) ↔ Ln < i + 3) := by
    intro i hi
    rw [show (3 : Int32) = nI 3 from rfl, i_lt, pk_sub_toInt (by omega) (by omega), nI_toInt (by omega)]
    omega
  intro d
  induction d with
  | zero =>
    intro k i V h1 h2 h3 h
    obtain ⟨k, rfl⟩ : ∃ m, k = m + 1 := ⟨k - 1, by omega⟩
    rw [Lw_law_L18, if_pos ((hle i h2).mpr (by omega))]
  | succ d ih =>
    intro k i V h1 h2 h3 h
    obtain ⟨k, rfl⟩ : ∃ m, k = m + 1 := ⟨k - 1, by omega⟩
    by_cases e : Ln < i + 3
    · rw [Lw_law_L18, if_pos ((hle i h2).mpr e)]
    · have ihn : ∀ V', Rel T V' → Lw_law_L18 xs Ln T 0 166 k V' (nI (i + 3)) = some 1 := fun V' hV => ih k (i + 3) V' (by omega) (by omega) (by omega) hV
      have i1 : inb (nI (i + 1)) Ln = true := inb_n (by omega) (by omega)
      have i2 : inb (nI (i + 2)) Ln = true := inb_n (by omega) (by omega)
      rw [Lw_law_L18, if_neg (fun z => e ((hle i h2).mp z)), gd_s (inb_n (by omega) (by omega)), ad_1, ad_2, ad_3, cl_n (show i < 2 ^ 31 by omega), cl_n (show i + 1 < 2 ^ 31 by omega), cl_n (show i + 2 < 2 ^ 31 by omega)]
      generalize xs i &&& 31 = op
      generalize xs (i + 1) = x
      generalize xs (i + 2) = y
      by_cases e0 : op = 0
      · obtain ⟨r, V1, V2, p1, p2, p3⟩ := j_write h x
        have p2 : Mo_write T V1 166 x = some (r, V2) := p2
        rw [if_pos e0, gd_s i1, ck_s k8, bd_s, p1, bd2_s, gd_s i1, ck_s k9, bd_s, p2, bd2_s, if_pos rfl]
        exact ihn V2 p3
      rw [if_neg e0]
      by_cases e1 : op = 1
      · obtain ⟨r, V1, V2, p1, p2, p3⟩ := j_wipe h 
        have p2 : Mo_wipe T V1 166  = some (r, V2) := p2
        rw [if_pos e1, ck_s k8, bd_s, p1, bd2_s, ck_s k9, bd_s, p2, bd2_s, if_pos rfl]
        exact ihn V2 p3
      rw [if_neg e1]
      by_cases e2 : op = 2
      · obtain ⟨r, V1, V2, p1, p2, p3⟩ := j_fault h 
        have p2 : Mo_fault T V1 166  = some (r, V2) := p2
        rw [if_pos e2, ck_s k8, bd_s, p1, bd2_s, ck_s k9, bd_s, p2, bd2_s, if_pos rfl]
        exact ihn V2 p3
      rw [if_neg e2]
      by_cases e3 : op = 3
      · obtain ⟨r, V1, V2, p1, p2, p3⟩ := j_lay h 
        have p2 : Mo_lay T V1 166  = some (r, V2) := p2
        rw [if_pos e3, ck_s k8, bd_s, p1, bd2_s, ck_s k9, bd_s, p2, bd2_s, if_pos rfl]
        exact ihn V2 p3
      rw [if_neg e3]
      by_cases e4 : op = 4
      · obtain ⟨r, V1, V2, p1, p2, p3⟩ := j_strike h x y
        have p2 : Mo_strike T V1 166 x y = some (r, V2) := p2
        rw [if_pos e4, gd_s i1, gd_s i2, ck_s k8, bd_s, p1, bd2_s, gd_s i1, gd_s i2, ck_s k9, bd_s, p2, bd2_s, if_pos rfl]
        exact ihn V2 p3
      rw [if_neg e4]
      by_cases e5 : op = 5
      · obtain ⟨r, V1, V2, p1, p2, p3⟩ := j_law h x
        have p2 : Mo_law T V1 166 x = some (r, V2) := p2
        rw [if_pos e5, gd_s i1, ck_s k8, bd_s, p1, bd2_s, gd_s i1, ck_s k9, bd_s, p2, bd2_s, if_pos rfl]
        exact ihn V2 p3
      rw [if_neg e5]
      by_cases e6 : op = 6
      · obtain ⟨r, V1, V2, p1, p2, p3⟩ := j_carve h x
        have p2 : Mo_carve T V1 166 x = some (r, V2) := p2
        rw [if_pos e6, gd_s i1, ck_s k8, bd_s, p1, bd2_s, gd_s i1, ck_s k9, bd_s, p2, bd2_s, if_pos rfl]
        exact ihn V2 p3
      rw [if_neg e6]
      by_cases e7 : op = 7
      · obtain ⟨r, V1, V2, p1, p2, p3⟩ := j_chip h 
        have p2 : Mo_chip T V1 166  = some (r, V2) := p2
        rw [if_pos e7, ck_s k8, bd_s, p1, bd2_s, ck_s k9, bd_s, p2, bd2_s, if_pos rfl]
        exact ihn V2 p3
      rw [if_neg e7]
      by_cases e8 : op = 8
      · obtain ⟨r, V1, V2, p1, p2, p3⟩ := j_undo h 
        have p2 : Mo_undo T V1 166  = some (r, V2) := p2
        rw [if_pos e8, ck_s k8, bd_s, p1, bd2_s, ck_s k9, bd_s, p2, bd2_s, if_pos rfl]
        exact ihn V2 p3
      rw [if_neg e8]
      by_cases e9 : op = 9
      · obtain ⟨r, V1, V2, p1, p2, p3⟩ := j_sign h x y
        have p2 : Mo_sign T V1 166 x y = some (r, V2) := p2
        rw [if_pos e9, gd_s i1, gd_s i2, ck_s k8, bd_s, p1, bd2_s, gd_s i1, gd_s i2, ck_s k9, bd_s, p2, bd2_s, if_pos rfl]
        exact ihn V2 p3
      rw [if_neg e9]
      by_cases e10 : op = 10
      · obtain ⟨r, V1, V2, p1, p2, p3⟩ := j_word h x y
        have p2 : Mo_word T V1 166 x y = some (r, V2) := p2
        rw [if_pos e10, gd_s i1, gd_s i2, ck_s k8, bd_s, p1, bd2_s, gd_s i1, gd_s i2, ck_s k9, bd_s, p2, bd2_s, if_pos rfl]
        exact ihn V2 p3
      rw [if_neg e10]
      by_cases e11 : op = 11
      · obtain ⟨r, V1, V2, p1, p2, p3⟩ := j_least h x y
        have p2 : Mo_least T V1 166 x y = some (r, V2) := p2
        rw [if_pos e11, gd_s i1, gd_s i2, ck_s k8, bd_s, p1, bd2_s, gd_s i1, gd_s i2, ck_s k9, bd_s, p2, bd2_s, if_pos rfl]
        exact ihn V2 p3
      rw [if_neg e11]
      by_cases e12 : op = 12
      · obtain ⟨r, V1, V2, p1, p2, p3⟩ := j_mark h x
        have p2 : Mo_mark T V1 166 x = some (r, V2) := p2
        rw [if_pos e12, gd_s i1, ck_s k8, bd_s, p1, bd2_s, gd_s i1, ck_s k9, bd_s, p2, bd2_s, if_pos rfl]
        exact ihn V2 p3
      rw [if_neg e12]
      by_cases e13 : op = 13
      · obtain ⟨r, V1, V2, p1, p2, p3⟩ := j_writings h x
        have p2 : Mo_writings T V1 166 x = some (r, V2) := p2
        rw [if_pos e13, gd_s i1, ck_s k8, bd_s, p1, bd2_s, gd_s i1, ck_s k9, bd_s, p2, bd2_s, if_pos (lgc_self r)]
        exact ihn V2 p3
      rw [if_neg e13]
      by_cases e14 : op = 14
      · obtain ⟨r, p1, p2⟩ := j_carved h x
        rw [if_pos e14, gd_s i1, ck_s k8, bd_s, p1, bd_s, gd_s i1, ck_s k9, bd_s, p2, bd_s, if_pos rfl]
        exact ihn V h
      rw [if_neg e14]
      by_cases e15 : op = 15
      · obtain ⟨r, V1, p1, p2, p3⟩ := j_read h x y
        rw [if_pos e15, gd_s i1, gd_s i2, ck_s k8, bd_s, p1, bd2_s, gd_s i1, gd_s i2, ck_s k9, bd_s, p2, bd_s, if_pos rfl]
        exact ihn V1 p3
      rw [if_neg e15]
      by_cases e16 : op = 16
      · obtain ⟨r, V1, V2, p1, p2, p3⟩ := j_readings h 
        have p2 : Mo_readings T V1 166  = some (r, V2) := p2
        rw [if_pos e16, ck_s k8, bd_s, p1, bd2_s, ck_s k9, bd_s, p2, bd2_s, if_pos (lgc_self r)]
        exact ihn V2 p3
      rw [if_neg e16]
      by_cases e17 : op = 17
      · obtain ⟨r, V1, V2, p1, p2, p3⟩ := j_reading h x
        have p2 : Mo_reading T V1 166 x = some (r, V2) := p2
        rw [if_pos e17, gd_s i1, ck_s k8, bd_s, p1, bd2_s, gd_s i1, ck_s k9, bd_s, p2, bd2_s, if_pos rfl]
        exact ihn V2 p3
      rw [if_neg e17]
      by_cases e18 : op = 18
      · obtain ⟨r, V1, V2, p1, p2, p3⟩ := j_cut h x
        have p2 : Mo_cut T V1 166 x = some (r, V2) := p2
        rw [if_pos e18, gd_s i1, ck_s k8, bd_s, p1, bd2_s, gd_s i1, ck_s k9, bd_s, p2, bd2_s, if_pos rfl]
        exact ihn V2 p3
      rw [if_neg e18]
      by_cases e19 : op = 19
      · obtain ⟨r, V1, V2, p1, p2, p3⟩ := j_count h x
        have p2 : Mo_count T V1 166 x = some (r, V2) := p2
        rw [if_pos e19, gd_s i1, ck_s k8, bd_s, p1, bd2_s, gd_s i1, ck_s k9, bd_s, p2, bd2_s, if_pos rfl]
        exact ihn V2 p3
      rw [if_neg e19]
      exact ihn V h
