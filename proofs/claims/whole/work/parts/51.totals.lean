/-! total, anew, part, onPath -/
theorem st_total {k : Nat} {lst : LG} {mst : MS} (hR : Rel k lst mst) (hk : k < 512) (z1 z2 z3 z4 z5 : Int32) (hz3 : isB z3 = true) (hz4 : isB z4 = true) (hz5 : isB z5 = true) : ∃ (r : Int64) (lst2 : LG) (mst2 : MS), fX5_total lst z1 z2 z3 z4 z5 = some (r, lst2) ∧ fX6_total mst z1 z2 z3 z4 z5 = some (r, mst2) ∧ Rel (k + 1) lst2 mst2 := by
  have hR0 := hR
  obtain ⟨u, hu1, hu2, hl, hm, hRow, hF, h7, h8⟩ := hR
  obtain ⟨n, C, M, hC, hM, hE, hSp⟩ := h7
  obtain ⟨nr, hnr, hrs, -⟩ := hRow.2.2.2.2.2.2.2
  obtain ⟨nf, hnf, hsz, -⟩ := hF.2.2.2.2.2
  have hv : MS_versions (MS_thrown_s mst 0) = nI nf := by rw [← hsz, hF.2.2.2.2.1]; rfl
  by_cases c1 : inb z1 10 = true
  case neg => exact ⟨-2, lst, MS_thrown_s mst 0, by simp [fX5_total, isYear_eq, c1], by simp [fX6_total, bnd, noYear_eq, c1], Rel_up (Rel_thr hR0)⟩
  by_cases c2 : z2 = -9 ∨ inb z2 nf = true
  case neg => exact ⟨-1, lst, MS_thrown_s mst 0, by simp [fX5_total, isYear_eq, c1, isAsOf_eq hsz hnf, c2], by simp [fX6_total, bnd, noYear_eq, c1, noAs_eq hv hnf, c2], Rel_up (Rel_thr hR0)⟩
  obtain ⟨r, A', T', b1, b2, b3, b4⟩ := tot_eq hE hu2 hC hM hRow hF hrs hnr hsz hnf (FrL_rf hC hSp) (FrA_s_thrown (FrA_rf mst) 0) (-9) z1 (-9) z2 z3 z4 z5 c2 (Or.inl rfl)
  refine ⟨r, A', T', ?_, ?_, Rel_up (Rel_fr (Rel_frL hR0 hM hl hu2 hE b3) b4)⟩
  · simp [fX5_total, isYear_eq, c1, isAsOf_eq hsz hnf, c2, hz3, hz4, hz5, b1]
  · simp [fX6_total, bnd, noYear_eq, c1, noAs_eq hv hnf, c2, b2]
theorem st_anew {k : Nat} {lst : LG} {mst : MS} (hR : Rel k lst mst) (hk : k < 512) (z1 z2 z3 z4 z5 z6 : Int32) (hz4 : isB z4 = true) (hz5 : isB z5 = true) (hz6 : isB z6 = true) : ∃ (r : Int64) (lst2 : LG) (mst2 : MS), fX5_anew lst z1 z2 z3 z4 z5 z6 = some (r, lst2) ∧ fX6_anew mst z1 z2 z3 z4 z5 z6 = some (r, mst2) ∧ Rel (k + 1) lst2 mst2 := by
  have hR0 := hR
  obtain ⟨u, hu1, hu2, hl, hm, hRow, hF, h7, h8⟩ := hR
  obtain ⟨n, C, M, hC, hM, hE, hSp⟩ := h7
  obtain ⟨nr, hnr, hrs, -⟩ := hRow.2.2.2.2.2.2.2
  obtain ⟨nf, hnf, hsz, -⟩ := hF.2.2.2.2.2
  have hv : MS_versions (MS_thrown_s mst 0) = nI nf := by rw [← hsz, hF.2.2.2.2.1]; rfl
  by_cases c1 : inb z1 10 = true
  case neg => exact ⟨-2, lst, MS_thrown_s mst 0, by simp [fX5_anew, isYear_eq, c1], by simp [fX6_anew, fX6_anew_b19, bnd, noYear_eq, c1], Rel_up (Rel_thr hR0)⟩
  by_cases c3 : inb z2 3650 = true
  case neg => exact ⟨-2, lst, MS_thrown_s mst 0, by simp [fX5_anew, isYear_eq, c1, isDay_eq, c3], by simp [fX6_anew, fX6_anew_b19, bnd, noYear_eq, c1, noDay_eq, c3], Rel_up (Rel_thr hR0)⟩
  by_cases c2 : z3 = -9 ∨ inb z3 nf = true
  case neg => exact ⟨-1, lst, MS_thrown_s mst 0, by simp [fX5_anew, isYear_eq, c1, isDay_eq, c3, isAsOf_eq hsz hnf, c2], by simp [fX6_anew, bnd, noYear_eq, c1, noDay_eq, c3, noAs_eq hv hnf, c2], Rel_up (Rel_thr hR0)⟩
  obtain ⟨r, A', T', b1, b2, b3, b4⟩ := tot_eq hE hu2 hC hM hRow hF hrs hnr hsz hnf (FrL_rf hC hSp) (FrA_s_thrown (FrA_rf mst) 0) (-9) z1 z2 z3 z4 z5 z6 c2 (Or.inr c3)
  refine ⟨r, A', T', ?_, ?_, Rel_up (Rel_fr (Rel_frL hR0 hM hl hu2 hE b3) b4)⟩
  · simp [fX5_anew, isYear_eq, c1, isDay_eq, c3, isAsOf_eq hsz hnf, c2, hz4, hz5, hz6, b1]
  · simp [fX6_anew, bnd, noYear_eq, c1, noDay_eq, c3, noAs_eq hv hnf, c2, b2]
theorem st_part {k : Nat} {lst : LG} {mst : MS} (hR : Rel k lst mst) (hk : k < 512) (z1 z2 z3 z4 z5 z6 : Int32) (hz4 : isB z4 = true) (hz5 : isB z5 = true) (hz6 : isB z6 = true) : ∃ (r : Int64) (lst2 : LG) (mst2 : MS), fX5_part lst z1 z2 z3 z4 z5 z6 = some (r, lst2) ∧ fX6_part mst z1 z2 z3 z4 z5 z6 = some (r, mst2) ∧ Rel (k + 1) lst2 mst2 := by
  have hR0 := hR
  obtain ⟨u, hu1, hu2, hl, hm, hRow, hF, h7, h8⟩ := hR
  obtain ⟨n, C, M, hC, hM, hE, hSp⟩ := h7
  obtain ⟨nr, hnr, hrs, -⟩ := hRow.2.2.2.2.2.2.2
  obtain ⟨nf, hnf, hsz, -⟩ := hF.2.2.2.2.2
  have hm' : MS_units (MS_thrown_s mst 0) = nI u := hm
  have hv : MS_versions (MS_thrown_s mst 0) = nI nf := by rw [← hsz, hF.2.2.2.2.1]; rfl
  by_cases c1 : inb z1 u = true
  case neg => exact ⟨-1, lst, MS_thrown_s mst 0, by simp [fX5_part, isUnit_eq hl hu2, c1], by simp [fX6_part, bnd, noUnit_eq hm' hu1 hu2, c1], Rel_up (Rel_thr hR0)⟩
  by_cases c3 : inb z2 10 = true
  case neg => exact ⟨-2, lst, MS_thrown_s mst 0, by simp [fX5_part, isUnit_eq hl hu2, c1, isYear_eq, c3], by simp [fX6_part, bnd, noUnit_eq hm' hu1 hu2, c1, noYear_eq, c3], Rel_up (Rel_thr hR0)⟩
  by_cases c2 : z3 = -9 ∨ inb z3 nf = true
  case neg => exact ⟨-1, lst, MS_thrown_s mst 0, by simp [fX5_part, isUnit_eq hl hu2, c1, isYear_eq, c3, isAsOf_eq hsz hnf, c2], by simp [fX6_part, bnd, noUnit_eq hm' hu1 hu2, c1, noYear_eq, c3, noAs_eq hv hnf, c2], Rel_up (Rel_thr hR0)⟩
  obtain ⟨r, A', T', b1, b2, b3, b4⟩ := tot_eq hE hu2 hC hM hRow hF hrs hnr hsz hnf (FrL_rf hC hSp) (FrA_s_thrown (FrA_rf mst) 0) z1 z2 (-9) z3 z4 z5 z6 c2 (Or.inl rfl)
  refine ⟨r, A', T', ?_, ?_, Rel_up (Rel_fr (Rel_frL hR0 hM hl hu2 hE b3) b4)⟩
  · simp [fX5_part, isUnit_eq hl hu2, c1, isYear_eq, c3, isAsOf_eq hsz hnf, c2, hz4, hz5, hz6, b1]
  · simp [fX6_part, bnd, noUnit_eq hm' hu1 hu2, c1, noYear_eq, c3, noAs_eq hv hnf, c2, b2]
theorem isHun_eq (x : Int32) : fX5_isHundredths x = some (if inb x 101 = true then 1 else 0) := by
  rw [← chk_eq x (n := 101) (by omega)]
  unfold fX5_isHundredths
  have e : ((100 : Int32) < x) ↔ nI 101 ≤ x := by
    rw [Int32.lt_iff_toInt_lt, Int32.le_iff_toInt_le, nI_toInt (by omega)]
    have : (100 : Int32).toInt = 100 := rfl
    omega
  simp only [e]
theorem inHun_eq (x : Int32) : fX6_in (Int32.toInt64 x) 0 100 = some (if inb x 101 = true then 1 else 0) := in0_eq x 100 101 (by decide)
theorem st_onPath {k : Nat} {lst : LG} {mst : MS} (hR : Rel k lst mst) (hk : k < 512) (z1 z2 z3 z4 : Int32) : ∃ (r : Int32) (lst2 : LG) (mst2 : MS), fX5_onPath lst z1 z2 z3 z4 = some (r, lst2) ∧ fX6_onPath mst z1 z2 z3 z4 = some (r, mst2) ∧ Rel (k + 1) lst2 mst2 := by
  have hR0 := hR
  obtain ⟨u, hu1, hu2, hl, hm, hRow, hF, h7, h8⟩ := hR
  obtain ⟨n, C, M, hC, hM, hE, hSp⟩ := h7
  obtain ⟨nr, hnr, hrs, -⟩ := hRow.2.2.2.2.2.2.2
  obtain ⟨nf, hnf, hsz, -⟩ := hF.2.2.2.2.2
  have good : fX5_onPath lst z1 z2 z3 z4 = some (-2, lst) → fX6_onPath mst z1 z2 z3 z4 = some (-2, MS_thrown_s mst 0) → ∃ (r : Int32) (lst2 : LG) (mst2 : MS), fX5_onPath lst z1 z2 z3 z4 = some (r, lst2) ∧ fX6_onPath mst z1 z2 z3 z4 = some (r, mst2) ∧ Rel (k + 1) lst2 mst2 := fun h1 h2 => ⟨-2, _, _, h1, h2, Rel_up (Rel_thr hR0)⟩
  by_cases c1 : inb z1 10 = true
  case neg => exact good (by simp [fX5_onPath, isYear_eq, c1]) (by simp [fX6_onPath, bnd, noYear_eq, c1])
  by_cases c2 : inb z2 10 = true
  case neg => exact good (by simp [fX5_onPath, isYear_eq, c1, c2]) (by simp [fX6_onPath, bnd, noYear_eq, c1, c2])
  by_cases c3 : inb z3 10 = true
  case neg => exact good (by simp [fX5_onPath, isYear_eq, c1, c2, c3]) (by simp [fX6_onPath, bnd, noYear_eq, c1, c2, c3])
  by_cases c4 : inb z4 101 = true
  case neg => exact good (by simp [fX5_onPath, isYear_eq, c1, c2, c3, isHun_eq, c4]) (by simp [fX6_onPath, bnd, noYear_eq, c1, c2, c3, inHun_eq, c4])
  obtain ⟨a, ha, rfl⟩ := inb_of c1 (by omega)
  obtain ⟨b, hb, rfl⟩ := inb_of c2 (by omega)
  obtain ⟨c, hc, rfl⟩ := inb_of c3 (by omega)
  by_cases g1 : c ≤ b
  · have q1 : nI c ≤ nI b := (nI_leI (by omega) (by omega)).mpr g1
    exact good (by simp [fX5_onPath, isYear_eq, c1, c2, c3, isHun_eq, c4, q1]) (by simp [fX6_onPath, bnd, noYear_eq, c1, c2, c3, inHun_eq, c4, q1])
  have q1 : ¬ nI c ≤ nI b := by rw [nI_leI (by omega) (by omega)]; exact g1
  have inq : fX6_in (Int32.toInt64 (nI a)) (Int32.toInt64 (nI b)) (Int32.toInt64 (nI c)) = some (if b ≤ a ∧ a ≤ c then 1 else 0) := by
    rw [in_eq, Int32.toInt_toInt64, Int32.toInt_toInt64, nI_toInt (by omega), nI_toInt (by omega), nI_toInt (by omega)]
    by_cases w : b ≤ a ∧ a ≤ c
    · rw [if_pos w, if_pos (by omega)]
    · rw [if_neg w, if_neg (by omega)]
  by_cases g2 : a < b
  · have q2 : nI a < nI b := nI_lt g2 (by omega)
    have w : ¬ (b ≤ a ∧ a ≤ c) := by omega
    rw [if_neg w] at inq
    exact good (by simp [fX5_onPath, isYear_eq, c1, c2, c3, isHun_eq, c4, q1, q2]) (by simp [fX6_onPath, bnd, noYear_eq, c1, c2, c3, inHun_eq, c4, q1, inq])
  have q2 : ¬ nI a < nI b := by rw [nI_ltI (by omega) (by omega)]; exact g2
  by_cases g3 : a ≤ c
  case neg =>
    have q3 : ¬ nI a ≤ nI c := by rw [nI_leI (by omega) (by omega)]; exact g3
    have w : ¬ (b ≤ a ∧ a ≤ c) := by omega
    rw [if_neg w] at inq
    exact good (by simp [fX5_onPath, isYear_eq, c1, c2, c3, isHun_eq, c4, q1, q2, q3]) (by simp [fX6_onPath, bnd, noYear_eq, c1, c2, c3, inHun_eq, c4, q1, inq])
  have q3 : nI a ≤ nI c := (nI_leI (by omega) (by omega)).mpr g3
  rw [if_pos (by omega)] at inq
  obtain ⟨t1, A1, T1, p1, p2, p3, p4⟩ := tot_eq hE hu2 hC hM hRow hF hrs hnr hsz hnf (FrL_rf hC hSp) (FrA_s_thrown (FrA_rf mst) 0) (-9) (nI a) (-9) (-9) 1 1 0 (Or.inl rfl) (Or.inl rfl)
  obtain ⟨t2, A2, T2, v1, v2, v3, v4⟩ := tot_eq hE hu2 hC hM hRow hF hrs hnr hsz hnf p3 p4 (-9) (nI b) (-9) (-9) 1 1 1 (Or.inl rfl) (Or.inl rfl)
  have fin : Rel (k + 1) A2 T2 := Rel_up (Rel_fr (Rel_frL hR0 hM hl hu2 hE v3) v4)
  have b1 : isB 1 = true := by decide
  have b0 : isB 0 = true := by decide
  have n1 : ¬ (1 : Int32) = 0 := by decide
  have eY : (100 : Int64) * Int32.toInt64 (nI c - nI b) = lN (100 * (c - b)) := by
    have e : nI c - nI b = nI (c - b) := pk_sub (by omega)
    rw [e, nI_l (by omega), show (100 : Int64) = lN 100 from rfl, lN_mul]
  have hY : ¬ (100 : Int64) * Int32.toInt64 (nI c - nI b) = 0 := by
    rw [eY, show (0 : Int64) = lN 0 from rfl, lN_eq (by omega) (by omega)]; omega
  have hY0 : 0 < lg_cmp ((100 : Int64) * Int32.toInt64 (nI c - nI b)) 0 := by
    rw [cmp_gt, eY, show (0 : Int64) = lN 0 from rfl, lN_lt (by omega) (by omega)]; omega
  obtain ⟨Y, hYe⟩ : ∃ Y, Y = (100 : Int64) * Int32.toInt64 (nI c - nI b) := ⟨_, rfl⟩
  rw [← hYe] at hY hY0
  obtain ⟨X, hX⟩ : ∃ X, X = Y - Int32.toInt64 z4 * Int32.toInt64 (nI a - nI b) := ⟨_, rfl⟩
  obtain ⟨Z, hZ⟩ : ∃ Z, Z = t2 / Y * X + (t2 - t2 / Y * Y) * X / Y := ⟨_, rfl⟩
  by_cases w1 : lg_cmp t1 (-9) = 0
  · refine ⟨-9, A2, T2, ?_, ?_, fin⟩
    · simp only [fX5_onPath, isYear_eq, c1, c2, c3, isHun_eq, c4, q1, q2, q3, b0, b1, n1, p1, v1, w1, Option.bind_some, if_true, if_false]
    · simp only [fX6_onPath, bnd, noYear_eq, c1, c2, c3, inHun_eq, c4, q1, inq, n1, p2, v2, w1, Option.bind_some, if_true, if_false]
  by_cases w2 : lg_cmp t2 (-9) = 0
  · refine ⟨-9, A2, T2, ?_, ?_, fin⟩
    · simp only [fX5_onPath, isYear_eq, c1, c2, c3, isHun_eq, c4, q1, q2, q3, b0, b1, n1, p1, v1, w1, w2, Option.bind_some, if_true, if_false]
    · simp only [fX6_onPath, bnd, noYear_eq, c1, c2, c3, inHun_eq, c4, q1, inq, n1, p2, v2, w1, w2, Option.bind_some, if_true, if_false]
  have cut : fX5_cutPart t2 X Y = some Z := by simp only [fX5_cutPart, hY, hY0, if_true, if_false, ← hZ]
  by_cases w3 : 0 < lg_cmp t1 Z
  · refine ⟨0, A2, T2, ?_, ?_, fin⟩
    · simp only [fX5_onPath, isYear_eq, c1, c2, c3, isHun_eq, c4, q1, q2, q3, b0, b1, n1, p1, v1, w1, w2, ← hYe, ← hX, cut, w3, Option.bind_some, if_true, if_false]
    · simp only [fX6_onPath, bnd, noYear_eq, c1, c2, c3, inHun_eq, c4, q1, inq, n1, p2, v2, w1, w2, ← hYe, ← hX, ← hZ, hY, w3, Option.bind_some, if_true, if_false]
  · refine ⟨1, A2, T2, ?_, ?_, fin⟩
    · simp only [fX5_onPath, isYear_eq, c1, c2, c3, isHun_eq, c4, q1, q2, q3, b0, b1, n1, p1, v1, w1, w2, ← hYe, ← hX, cut, w3, Option.bind_some, if_true, if_false]
    · simp only [fX6_onPath, bnd, noYear_eq, c1, c2, c3, inHun_eq, c4, q1, inq, n1, p2, v2, w1, w2, ← hYe, ← hX, ← hZ, hY, w3, Option.bind_some, if_true, if_false]
