/-! rows, factors: adding; count -/
theorem n9 : (-9 : Int32).toInt = -9 := by decide
theorem nI_n9 {j : Nat} (h : j < 2 ^ 31) : ¬ nI j = -9 := fun q => by
  have := congrArg Int32.toInt q
  rw [nI_toInt h, n9] at this; omega
theorem upd_s (f : Nat → Int32) (k : Nat) (x : Int32) : upd f k x k = x := pk_us
theorem upd_n (f : Nat → Int32) {k j : Nat} (x : Int32) (h : j ≠ k) : upd f k x j = f j := pk_un h
theorem LG_eta (s : LG) : LG_mk (LG_H s) (LG_R s) (LG_F s) (LG_S s) (LG_units s) = s := rfl
theorem st_count {k : Nat} {lst : LG} {mst : MS} (hR : Rel k lst mst) (hk : k < 512) (z1 : Int32) : ∃ (r : Int32) (mst2 : MS), fX5_count lst z1 = some r ∧ fX6_count mst z1 = some (r, mst2) ∧ Rel (k + 1) lst mst2 := by
  have hR0 := hR
  obtain ⟨u, hu1, hu2, hl, hm, hRow, hF, hH, hS⟩ := hR
  obtain ⟨n, C, M, hC, hM, -⟩ := hH
  obtain ⟨sz, t, fs, hS⟩ := hS
  have e0 : LG_units lst = MS_units mst := by rw [hl, hm]
  have e1 : RS_size (LG_R lst) = MS_rows mst := hRow.2.2.2.2.2.2.1
  have e2 : FS_size (LG_F lst) = MS_versions mst := hF.2.2.2.2.1
  have e3 : SS_issued (LG_S lst) = MS_serials mst := by rw [hS.2.2.2.2.2.1, hS.2.2.2.2.2.2.2.1]
  have e4 : HS_size (LG_H lst) = MS_holdings mst := by rw [hC.1, hM.1]
  have key : fX6_count mst z1 = (fX5_count lst z1).map (fun r => (r, MS_thrown_s mst 0)) := by
    unfold fX5_count fX6_count bnd
    dsimp only
    rw [e0, e1, e2, e3, e4]
    by_cases c0 : z1 = 0
    · rw [if_pos c0, if_pos c0]; rfl
    · rw [if_neg c0, if_neg c0]
      by_cases c1 : z1 = 1
      · rw [if_pos c1, if_pos c1]; rfl
      · rw [if_neg c1, if_neg c1]
        by_cases c2 : z1 = 2
        · rw [if_pos c2, if_pos c2]; rfl
        · rw [if_neg c2, if_neg c2]
          by_cases c3 : z1 = 3
          · rw [if_pos c3, if_pos c3]; rfl
          · rw [if_neg c3, if_neg c3]
            by_cases c4 : z1 = 4
            · rw [if_pos c4, if_pos c4]; rfl
            · rw [if_neg c4, if_neg c4]; rfl
  have tot : ∃ r, fX5_count lst z1 = some r := by
    unfold fX5_count
    repeat' split
    all_goals exact ⟨_, rfl⟩
  obtain ⟨r, hr⟩ := tot
  exact ⟨r, MS_thrown_s mst 0, hr, by rw [key, hr]; rfl, Rel_up (Rel_thr hR0)⟩
theorem st_row {k : Nat} {lst : LG} {mst : MS} (hR : Rel k lst mst) (hk : k < 512) (z1 z2 z3 z4 z5 : Int32) : ∃ (r : Int32) (lst2 : LG) (mst2 : MS), fX5_row lst z1 z2 z3 z4 z5 = some (r, lst2) ∧ fX6_row mst z1 z2 z3 z4 z5 = some (r, mst2) ∧ Rel (k + 1) lst2 mst2 := by
  have hR0 := hR
  obtain ⟨u, hu1, hu2, hl, hm, hRow, h6, h7, h8⟩ := hR
  obtain ⟨e1, e2, e3, e4, e5, e6, e7, n, hn, hsz, hok, hcov⟩ := hRow
  have hm' : MS_units (MS_thrown_s mst 0) = nI u := hm
  have bad : ∀ v : Int32, fX5_row lst z1 z2 z3 z4 z5 = some (v, lst) → fX6_row mst z1 z2 z3 z4 z5 = some (v, MS_thrown_s mst 0) → ∃ (r : Int32) (lst2 : LG) (mst2 : MS), fX5_row lst z1 z2 z3 z4 z5 = some (r, lst2) ∧ fX6_row mst z1 z2 z3 z4 z5 = some (r, mst2) ∧ Rel (k + 1) lst2 mst2 := fun v h1 h2 => ⟨v, lst, _, h1, h2, Rel_up (Rel_thr hR0)⟩
  by_cases c1 : inb z1 u = true
  case neg => exact bad (-1) (by simp [fX5_row, isUnit_eq hl hu2, c1]) (by simp [fX6_row, bnd, noUnit_eq hm' hu1 hu2, c1])
  by_cases c5 : z5 = -9 ∨ inb z5 u = true
  case neg =>
    have c5a : ¬ z5 = -9 := fun q => c5 (Or.inl q)
    have c5b : ¬ inb z5 u = true := fun q => c5 (Or.inr q)
    exact bad (-1) (by simp [fX5_row, isUnit_eq hl hu2, c1, c5a, c5b]) (by simp [fX6_row, bnd, noUnit_eq hm' hu1 hu2, c1, c5a, c5b])
  have g1 : fX5_row lst z1 z2 z3 z4 z5 = fX5_row_b26 lst z1 z2 z3 z4 z5 := by
    rcases c5 with c5 | c5
    · simp [fX5_row, isUnit_eq hl hu2, c1, c5]
    · simp [fX5_row, isUnit_eq hl hu2, c1, c5]
  have g2 : fX6_row mst z1 z2 z3 z4 z5 = fX6_row_b31 (MS_thrown_s mst 0) z1 z2 z3 z4 z5 := by
    rcases c5 with c5 | c5
    · simp [fX6_row, bnd, noUnit_eq hm' hu1 hu2, c1, c5]
    · simp [fX6_row, bnd, noUnit_eq hm' hu1 hu2, c1, c5]
  rw [g1, g2] at bad ⊢
  by_cases c2 : inb z2 4 = true
  case neg => exact bad (-2) (by simp [fX5_row_b26, isKind_eq, c2]) (by simp [fX6_row_b31, inKind_eq, c2])
  have t1 : (1 : Int32).toInt = 1 := by decide
  have t2 : (100000 : Int32).toInt = 100000 := by decide
  have t3 : (1 : Int64).toInt = 1 := by decide
  have t4 : (100000 : Int64).toInt = 100000 := by decide
  have ha : fX6_in (Int32.toInt64 z3) 1 100000 = some (if 1 ≤ z3.toInt ∧ z3.toInt ≤ 100000 then 1 else 0) := by rw [in_eq, t3, t4]
  by_cases c3 : 1 ≤ z3.toInt ∧ z3.toInt ≤ 100000
  case neg =>
    refine bad (-2) ?_ (by simp [fX6_row_b31, inKind_eq, c2, ha, c3])
    by_cases q : z3 < 1
    · simp [fX5_row_b26, isKind_eq, c2, q]
    · have q2 : 100000 < z3 := by rw [Int32.lt_iff_toInt_lt, t1] at q; rw [Int32.lt_iff_toInt_lt, t2]; omega
      simp [fX5_row_b26, isKind_eq, c2, q, q2]
  have q1 : ¬ z3 < 1 := by rw [Int32.lt_iff_toInt_lt, t1]; omega
  have q2 : ¬ 100000 < z3 := by rw [Int32.lt_iff_toInt_lt, t2]; omega
  by_cases c4 : inb z4 3650 = true
  case neg => exact bad (-2) (by simp [fX5_row_b26, isKind_eq, isDay_eq, c2, q1, q2, c4]) (by simp [fX6_row_b31, inKind_eq, c2, ha, c3, noDay_eq, c4])
  by_cases c6 : z5 = z1
  case pos => exact bad (-3) (by simp [fX5_row_b26, isKind_eq, isDay_eq, c2, q1, q2, c4, c6]) (by simp [fX6_row_b31, inKind_eq, c2, ha, c3, noDay_eq, c4, c6])
  have hr' : MS_rows (MS_thrown_s mst 0) = nI n := by rw [← hsz, e7]; rfl
  by_cases c7 : n = 200
  case pos =>
    subst c7
    have k1 : ¬ RS_size (LG_R lst) < 200 := by rw [hsz]; exact Int32.lt_irrefl
    have k2 : MS_rows (MS_thrown_s mst 0) = 200 := hr'
    exact bad (-4) (by simp [fX5_row_b26, isKind_eq, isDay_eq, c2, q1, q2, c4, c6, fX2_add, k1, LG_eta]) (by simp [fX6_row_b31, inKind_eq, c2, ha, c3, noDay_eq, c4, c6, k2])
  have k1 : RS_size (LG_R lst) < 200 := by rw [hsz]; exact nI_lt (b := 200) (by omega) (by omega)
  have k2 : ¬ MS_rows (MS_thrown_s mst 0) = 200 := by rw [hr']; exact fun q => by rw [show (200 : Int32) = nI 200 from rfl, nI_eq (by omega) (by omega)] at q; omega
  have k3 : inb (RS_size (LG_R lst)) 200 = true := by rw [hsz]; exact inb_nI (by omega) (by omega)
  have k4 : inb (MS_rows mst) 200 = true := by rw [← e7]; exact k3
  have k2' : ¬ MS_rows mst = 200 := k2
  have cl : (nI n).toNatClampNeg = n := nI_clamp (by omega)
  obtain ⟨j1, hj1, rfl⟩ := inb_of c1 (by omega)
  obtain ⟨j4, hj4, rfl⟩ := inb_of c4 (by omega)
  obtain ⟨j3, hj3, hz3⟩ := nI_of (x := z3) (by rw [Int32.lt_iff_toInt_lt]; have := toInt0; omega)
  have hj3' : 1 ≤ j3 ∧ j3 ≤ 100000 := by rw [hz3, nI_toInt hj3] at c3; omega
  have gg1 : ∃ R2, fX5_row_b26 lst (nI j1) z2 z3 (nI j4) z5 = some (RS_size (LG_R lst) + 1 - 1, LG_mk (LG_H lst) R2 (LG_F lst) (LG_S lst) (LG_units lst)) ∧ R2 = (RS_size_s (RS_seller_s (RS_day_s (RS_amount_s (RS_kind_s (RS_unit_s (LG_R lst) (upd (RS_unit (LG_R lst)) (RS_size (LG_R lst)).toNatClampNeg (nI j1))) (upd (RS_kind (LG_R lst)) (RS_size (LG_R lst)).toNatClampNeg z2)) (upd (RS_amount (LG_R lst)) (RS_size (LG_R lst)).toNatClampNeg z3)) (upd (RS_day (LG_R lst)) (RS_size (LG_R lst)).toNatClampNeg (nI j4))) (upd (RS_seller (LG_R lst)) (RS_size (LG_R lst)).toNatClampNeg z5)) (RS_size (LG_R lst) + 1)) := by
    refine ⟨_, ?_, rfl⟩
    simp [fX5_row_b26, isKind_eq, isDay_eq, c2, q1, q2, c4, c6, fX2_add, k1, k3]
  obtain ⟨R2, gx, hR2⟩ := gg1
  have gg2 : ∃ m2, fX6_row_b31 (MS_thrown_s mst 0) (nI j1) z2 z3 (nI j4) z5 = some (MS_rows mst + 1 - 1, m2) ∧ MS_unitOf m2 = upd (MS_unitOf mst) (MS_rows mst).toNatClampNeg (nI j1) ∧ MS_kind m2 = upd (MS_kind mst) (MS_rows mst).toNatClampNeg z2 ∧ MS_amount m2 = upd (MS_amount mst) (MS_rows mst).toNatClampNeg z3 ∧ MS_day m2 = upd (MS_day mst) (MS_rows mst).toNatClampNeg (nI j4) ∧ MS_seller m2 = upd (MS_seller mst) (MS_rows mst).toNatClampNeg z5 ∧ MS_covered m2 = MS_covered mst ∧ MS_rows m2 = MS_rows mst + 1 ∧ MS_units m2 = MS_units mst ∧ (∀ F, FacRel F mst → FacRel F m2) ∧ (∀ u H, HoldRel u H mst → HoldRel u H m2) ∧ (∀ k S, SerRel k S mst → SerRel k S m2) := by
    refine ⟨MS_rows_s (MS_seller_s (MS_day_s (MS_amount_s (MS_kind_s (MS_unitOf_s (MS_thrown_s mst 0) (upd (MS_unitOf mst) (MS_rows mst).toNatClampNeg (nI j1))) (upd (MS_kind mst) (MS_rows mst).toNatClampNeg z2)) (upd (MS_amount mst) (MS_rows mst).toNatClampNeg z3)) (upd (MS_day mst) (MS_rows mst).toNatClampNeg (nI j4))) (upd (MS_seller mst) (MS_rows mst).toNatClampNeg z5)) (MS_rows mst + 1), ?_, ?_, ?_, ?_, ?_, ?_, ?_, ?_, ?_, fun F h => (tr_Fac_rows (tr_Fac_seller (tr_Fac_day (tr_Fac_amount (tr_Fac_kind (tr_Fac_unitOf (tr_Fac_thrown h))))))), fun u H h => (tr_Hold_rows (tr_Hold_seller (tr_Hold_day (tr_Hold_amount (tr_Hold_kind (tr_Hold_unitOf (tr_Hold_thrown h))))))), fun k S h => (tr_Ser_rows (tr_Ser_seller (tr_Ser_day (tr_Ser_amount (tr_Ser_kind (tr_Ser_unitOf (tr_Ser_thrown h)))))))⟩
    · simp only [fX6_row_b31, inKind_eq, c2, ha, c3, noDay_eq, c4, c6, bnd, if_true, if_false, Option.bind_some, and_self, MS_thrown_thrown, MS_thrown_unitOf, MS_thrown_kind, MS_thrown_amount, MS_thrown_day, MS_thrown_seller, MS_thrown_rows, MS_unitOf_thrown, MS_unitOf_unitOf, MS_unitOf_kind, MS_unitOf_amount, MS_unitOf_day, MS_unitOf_seller, MS_unitOf_rows, MS_kind_thrown, MS_kind_unitOf, MS_kind_kind, MS_kind_amount, MS_kind_day, MS_kind_seller, MS_kind_rows, MS_amount_thrown, MS_amount_unitOf, MS_amount_kind, MS_amount_amount, MS_amount_day, MS_amount_seller, MS_amount_rows, MS_day_thrown, MS_day_unitOf, MS_day_kind, MS_day_amount, MS_day_day, MS_day_seller, MS_day_rows, MS_seller_thrown, MS_seller_unitOf, MS_seller_kind, MS_seller_amount, MS_seller_day, MS_seller_seller, MS_seller_rows, MS_rows_thrown, MS_rows_unitOf, MS_rows_kind, MS_rows_amount, MS_rows_day, MS_rows_seller, MS_rows_rows, k2', k4]
      simp [k2', k4]
    all_goals simp only [MS_unitOf_thrown, MS_unitOf_unitOf, MS_unitOf_kind, MS_unitOf_amount, MS_unitOf_day, MS_unitOf_seller, MS_unitOf_rows, MS_kind_thrown, MS_kind_unitOf, MS_kind_kind, MS_kind_amount, MS_kind_day, MS_kind_seller, MS_kind_rows, MS_amount_thrown, MS_amount_unitOf, MS_amount_kind, MS_amount_amount, MS_amount_day, MS_amount_seller, MS_amount_rows, MS_day_thrown, MS_day_unitOf, MS_day_kind, MS_day_amount, MS_day_day, MS_day_seller, MS_day_rows, MS_seller_thrown, MS_seller_unitOf, MS_seller_kind, MS_seller_amount, MS_seller_day, MS_seller_seller, MS_seller_rows, MS_rows_thrown, MS_rows_unitOf, MS_rows_kind, MS_rows_amount, MS_rows_day, MS_rows_seller, MS_rows_rows, MS_covered_thrown, MS_covered_unitOf, MS_covered_kind, MS_covered_amount, MS_covered_day, MS_covered_seller, MS_covered_rows, MS_units_thrown, MS_units_unitOf, MS_units_kind, MS_units_amount, MS_units_day, MS_units_seller, MS_units_rows]
  obtain ⟨m2, gm, a1, a2, a3, a4, a5, a6, a7, a8, a9, a10, a11⟩ := gg2
  refine ⟨RS_size (LG_R lst) + 1 - 1, _, m2, gx, by rw [gm, e7], ?_⟩
  refine ⟨u, hu1, hu2, hl, by rw [a8, hm], ?_, a9 _ h6, a10 _ _ h7, (a11 _ _ h8).mono (by omega)⟩
  show RowRel u R2 m2
  subst hR2
  refine ⟨?_, ?_, ?_, ?_, ?_, ?_, ?_, n + 1, by omega, ?_, ?_, ?_⟩
  · show upd _ _ _ = _; rw [a1, e1, e7]
  · show upd _ _ _ = _; rw [a2, e2, e7]
  · show upd _ _ _ = _; rw [a3, e3, e7]
  · show upd _ _ _ = _; rw [a4, e4, e7]
  · show upd _ _ _ = _; rw [a5, e5, e7]
  · show RS_covered (LG_R lst) = _; rw [a6, e6]
  · show RS_size (LG_R lst) + 1 = _; rw [a7, e7]
  · show RS_size (LG_R lst) + 1 = _; rw [hsz]; exact nI_1 n
  · intro i hi
    show (∃ j, j < u ∧ upd (RS_unit (LG_R lst)) (RS_size (LG_R lst)).toNatClampNeg (nI j1) i = nI j) ∧ (∃ d, d < 3650 ∧ upd (RS_day (LG_R lst)) (RS_size (LG_R lst)).toNatClampNeg (nI j4) i = nI d) ∧ (upd (RS_seller (LG_R lst)) (RS_size (LG_R lst)).toNatClampNeg z5 i = -9 ∨ ∃ j, j < u ∧ upd (RS_seller (LG_R lst)) (RS_size (LG_R lst)).toNatClampNeg z5 i = nI j) ∧ ∃ a c, 1 ≤ a ∧ a ≤ 100000 ∧ c ≤ a ∧ upd (RS_amount (LG_R lst)) (RS_size (LG_R lst)).toNatClampNeg z3 i = nI a ∧ RS_covered (LG_R lst) i = nI c
    rw [hsz, cl]
    by_cases hin : i = n
    · subst hin
      simp only [upd_s]
      refine ⟨⟨j1, hj1, rfl⟩, ⟨j4, hj4, rfl⟩, ?_, j3, 0, hj3'.1, hj3'.2, by omega, hz3, hcov i (Nat.le_refl _)⟩
      rcases c5 with c5 | c5
      · exact Or.inl c5
      · exact Or.inr (inb_of c5 (by omega))
    · simp only [upd_n _ _ hin]
      exact hok i (by omega)
  · intro i hi
    exact hcov i (by omega)
