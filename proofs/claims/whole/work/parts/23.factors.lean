/-! factors -/
theorem st_factor {k : Nat} {lst : LG} {mst : MS} (hR : Rel k lst mst) (hk : k < 512) (z1 z2 z3 z4 : Int32) : ∃ (r : Int32) (lst2 : LG) (mst2 : MS), fX5_factor lst z1 z2 z3 z4 = some (r, lst2) ∧ fX6_factor mst z1 z2 z3 z4 = some (r, mst2) ∧ Rel (k + 1) lst2 mst2 := by
  have hR0 := hR
  obtain ⟨u, hu1, hu2, hl, hm, h5, hF, h7, h8⟩ := hR
  obtain ⟨e1, e2, e3, e4, e5, n, hn, hsz, hok⟩ := hF
  have bad : ∀ v : Int32, fX5_factor lst z1 z2 z3 z4 = some (v, lst) → fX6_factor mst z1 z2 z3 z4 = some (v, MS_thrown_s mst 0) → ∃ (r : Int32) (lst2 : LG) (mst2 : MS), fX5_factor lst z1 z2 z3 z4 = some (r, lst2) ∧ fX6_factor mst z1 z2 z3 z4 = some (r, mst2) ∧ Rel (k + 1) lst2 mst2 := fun v h1 h2 => ⟨v, lst, _, h1, h2, Rel_up (Rel_thr hR0)⟩
  by_cases c1 : inb z1 4 = true
  case neg => exact bad (-2) (by simp [fX5_factor, isKind_eq, c1]) (by simp [fX6_factor, bnd, inKind_eq, c1])
  by_cases c2 : inb z2 10 = true
  case neg => exact bad (-2) (by simp [fX5_factor, isKind_eq, isYear_eq, c1, c2]) (by simp [fX6_factor, bnd, inKind_eq, noYear_eq, c1, c2])
  have t0 : (0 : Int64).toInt = 0 := rfl
  have ha : fX6_in (Int32.toInt64 z3) 0 (Int32.toInt64 z4) = some (if 0 ≤ z3.toInt ∧ z3.toInt ≤ z4.toInt then 1 else 0) := by rw [in_eq, t0, Int32.toInt_toInt64]
  by_cases c3 : 0 ≤ z3.toInt ∧ z3.toInt ≤ z4.toInt
  case neg =>
    refine bad (-2) ?_ (by simp [fX6_factor, bnd, inKind_eq, noYear_eq, c1, c2, ha, c3])
    by_cases q : z3 < 0
    · simp [fX5_factor, isKind_eq, isYear_eq, c1, c2, q]
    · have q2 : z4 < z3 := by rw [Int32.lt_iff_toInt_lt, toInt0] at q; rw [Int32.lt_iff_toInt_lt]; omega
      simp [fX5_factor, isKind_eq, isYear_eq, c1, c2, q, q2]
  have q1 : ¬ z3 < 0 := by rw [Int32.lt_iff_toInt_lt, toInt0]; omega
  have q2 : ¬ z4 < z3 := by rw [Int32.lt_iff_toInt_lt]; omega
  by_cases c4 : z4 ≤ 1000
  case neg => exact bad (-2) (by simp [fX5_factor, isKind_eq, isYear_eq, c1, c2, q1, q2, c4]) (by simp [fX6_factor, bnd, inKind_eq, noYear_eq, c1, c2, ha, c3, c4])
  have hv' : MS_versions mst = nI n := by rw [← hsz, e5]
  by_cases c7 : n = 80
  case pos =>
    subst c7
    have k1 : ¬ FS_size (LG_F lst) < 80 := by rw [hsz]; exact Int32.lt_irrefl
    have k2 : MS_versions (MS_thrown_s mst 0) = 80 := hv'
    exact bad (-4) (by simp [fX5_factor, isKind_eq, isYear_eq, c1, c2, q1, q2, c4, fX0_add, k1, LG_eta]) (by simp [fX6_factor, bnd, inKind_eq, noYear_eq, c1, c2, ha, c3, c4, k2])
  have k1 : FS_size (LG_F lst) < 80 := by rw [hsz]; exact nI_lt (b := 80) (by omega) (by omega)
  have k2 : ¬ MS_versions mst = 80 := by rw [hv']; exact fun q => by rw [show (80 : Int32) = nI 80 from rfl, nI_eq (by omega) (by omega)] at q; omega
  have k3 : inb (FS_size (LG_F lst)) 80 = true := by rw [hsz]; exact inb_nI (by omega) (by omega)
  have k4 : inb (MS_versions mst) 80 = true := by rw [← e5]; exact k3
  have cl : (nI n).toNatClampNeg = n := nI_clamp (by omega)
  have t1000 : (1000 : Int32).toInt = 1000 := by decide
  have c4' : z4.toInt ≤ 1000 := by rw [Int32.le_iff_toInt_le, t1000] at c4; exact c4
  obtain ⟨j3, hj3, rfl⟩ := nI_of q1
  obtain ⟨j4, hj4, rfl⟩ := nI_of (x := z4) (by rw [Int32.lt_iff_toInt_lt, toInt0]; omega)
  rw [nI_toInt hj3, nI_toInt hj4] at c3
  rw [nI_toInt hj4] at c4'
  have gg1 : ∃ F2, fX5_factor lst z1 z2 (nI j3) (nI j4) = some (FS_size (LG_F lst) + 1 - 1, LG_mk (LG_H lst) (LG_R lst) F2 (LG_S lst) (LG_units lst)) ∧ F2 = FS_size_s (FS_high_s (FS_low_s (FS_year_s (FS_kind_s (LG_F lst) (upd (FS_kind (LG_F lst)) (FS_size (LG_F lst)).toNatClampNeg z1)) (upd (FS_year (LG_F lst)) (FS_size (LG_F lst)).toNatClampNeg z2)) (upd (FS_low (LG_F lst)) (FS_size (LG_F lst)).toNatClampNeg (nI j3))) (upd (FS_high (LG_F lst)) (FS_size (LG_F lst)).toNatClampNeg (nI j4))) (FS_size (LG_F lst) + 1) := by
    refine ⟨_, ?_, rfl⟩
    simp [fX5_factor, isKind_eq, isYear_eq, c1, c2, q1, q2, c4, fX0_add, k1, k3]
  obtain ⟨F2, gx, hF2⟩ := gg1
  have gg2 : ∃ m2, fX6_factor mst z1 z2 (nI j3) (nI j4) = some (MS_versions mst + 1 - 1, m2) ∧ MS_ofKind m2 = upd (MS_ofKind mst) (MS_versions mst).toNatClampNeg z1 ∧ MS_ofYear m2 = upd (MS_ofYear mst) (MS_versions mst).toNatClampNeg z2 ∧ MS_low m2 = upd (MS_low mst) (MS_versions mst).toNatClampNeg (nI j3) ∧ MS_high m2 = upd (MS_high mst) (MS_versions mst).toNatClampNeg (nI j4) ∧ MS_versions m2 = MS_versions mst + 1 ∧ MS_units m2 = MS_units mst ∧ (∀ u R, RowRel u R mst → RowRel u R m2) ∧ (∀ u H, HoldRel u H mst → HoldRel u H m2) ∧ (∀ k S, SerRel k S mst → SerRel k S m2) := by
    refine ⟨MS_versions_s (MS_high_s (MS_low_s (MS_ofYear_s (MS_ofKind_s (MS_thrown_s mst 0) (upd (MS_ofKind mst) (MS_versions mst).toNatClampNeg z1)) (upd (MS_ofYear mst) (MS_versions mst).toNatClampNeg z2)) (upd (MS_low mst) (MS_versions mst).toNatClampNeg (nI j3))) (upd (MS_high mst) (MS_versions mst).toNatClampNeg (nI j4))) (MS_versions mst + 1), ?_, ?_, ?_, ?_, ?_, ?_, ?_, fun u R h => (tr_Row_versions (tr_Row_high (tr_Row_low (tr_Row_ofYear (tr_Row_ofKind (tr_Row_thrown h)))))), fun u H h => (tr_Hold_versions (tr_Hold_high (tr_Hold_low (tr_Hold_ofYear (tr_Hold_ofKind (tr_Hold_thrown h)))))), fun k S h => (tr_Ser_versions (tr_Ser_high (tr_Ser_low (tr_Ser_ofYear (tr_Ser_ofKind (tr_Ser_thrown h))))))⟩
    · simp only [fX6_factor, inKind_eq, noYear_eq, c1, c2, ha, c4, bnd, if_true, if_false, Option.bind_some, MS_thrown_thrown, MS_thrown_ofKind, MS_thrown_ofYear, MS_thrown_low, MS_thrown_high, MS_thrown_versions, MS_ofKind_thrown, MS_ofKind_ofKind, MS_ofKind_ofYear, MS_ofKind_low, MS_ofKind_high, MS_ofKind_versions, MS_ofYear_thrown, MS_ofYear_ofKind, MS_ofYear_ofYear, MS_ofYear_low, MS_ofYear_high, MS_ofYear_versions, MS_low_thrown, MS_low_ofKind, MS_low_ofYear, MS_low_low, MS_low_high, MS_low_versions, MS_high_thrown, MS_high_ofKind, MS_high_ofYear, MS_high_low, MS_high_high, MS_high_versions, MS_versions_thrown, MS_versions_ofKind, MS_versions_ofYear, MS_versions_low, MS_versions_high, MS_versions_versions, k2, k4]
      simp [k2, k4, nI_toInt hj3, nI_toInt hj4, c3.2]
    all_goals simp only [MS_ofKind_thrown, MS_ofKind_ofKind, MS_ofKind_ofYear, MS_ofKind_low, MS_ofKind_high, MS_ofKind_versions, MS_ofYear_thrown, MS_ofYear_ofKind, MS_ofYear_ofYear, MS_ofYear_low, MS_ofYear_high, MS_ofYear_versions, MS_low_thrown, MS_low_ofKind, MS_low_ofYear, MS_low_low, MS_low_high, MS_low_versions, MS_high_thrown, MS_high_ofKind, MS_high_ofYear, MS_high_low, MS_high_high, MS_high_versions, MS_versions_thrown, MS_versions_ofKind, MS_versions_ofYear, MS_versions_low, MS_versions_high, MS_versions_versions, MS_units_thrown, MS_units_ofKind, MS_units_ofYear, MS_units_low, MS_units_high, MS_units_versions]
  obtain ⟨m2, gm, a1, a2, a3, a4, a5, a6, a7, a8, a9⟩ := gg2
  refine ⟨FS_size (LG_F lst) + 1 - 1, _, m2, gx, by rw [gm, e5], ?_⟩
  refine ⟨u, hu1, hu2, hl, by rw [a6, hm], a7 _ _ h5, ?_, a8 _ _ h7, (a9 _ _ h8).mono (by omega)⟩
  show FacRel F2 m2
  subst hF2
  refine ⟨?_, ?_, ?_, ?_, ?_, n + 1, by omega, ?_, ?_⟩
  · show upd _ _ _ = _; rw [a1, e1, e5]
  · show upd _ _ _ = _; rw [a2, e2, e5]
  · show upd _ _ _ = _; rw [a3, e3, e5]
  · show upd _ _ _ = _; rw [a4, e4, e5]
  · show FS_size (LG_F lst) + 1 = _; rw [a5, e5]
  · show FS_size (LG_F lst) + 1 = _; rw [hsz]; exact nI_1 n
  · intro i hi
    show ∃ lo hi, lo ≤ 1000 ∧ hi ≤ 1000 ∧ upd (FS_low (LG_F lst)) (FS_size (LG_F lst)).toNatClampNeg (nI j3) i = nI lo ∧ upd (FS_high (LG_F lst)) (FS_size (LG_F lst)).toNatClampNeg (nI j4) i = nI hi
    rw [hsz, cl]
    by_cases hin : i = n
    · subst hin
      simp only [upd_s]
      exact ⟨j3, j4, by omega, by omega, rfl, rfl⟩
    · simp only [upd_n _ _ hin]
      exact hok i (by omega)
/-- the version: the latest of the latest year -/
def verS (kd yr : Nat → Int32) (x y : Int32) : Nat → Int32
  | 0 => -9
  | n + 1 => if kd n = x then (if y < yr n then verS kd yr x y n else (if verS kd yr x y n = -9 then nI n else (if yr n < yr (verS kd yr x y n).toNatClampNeg then verS kd yr x y n else nI n))) else verS kd yr x y n
theorem verS_in (kd yr : Nat → Int32) (x y : Int32) : ∀ n, verS kd yr x y n = -9 ∨ ∃ j, j < n ∧ verS kd yr x y n = nI j
  | 0 => Or.inl rfl
  | n + 1 => by
    have ih := verS_in kd yr x y n
    have ih' : verS kd yr x y n = -9 ∨ ∃ j, j < n + 1 ∧ verS kd yr x y n = nI j := by
      rcases ih with h | ⟨j, h1, h2⟩
      · exact Or.inl h
      · exact Or.inr ⟨j, by omega, h2⟩
    unfold verS
    repeat' split
    all_goals first | exact ih' | exact Or.inr ⟨n, by omega, rfl⟩
theorem verC_loop (F : FS) (x y : Int32) (n : Nat) (hn : n ≤ 80) : ∃ r, loopN (fun (s : Int32 × Int32) => fX0_versionFor_l25 F x y (nI n) s.1 s.2) fuelN ((-9 : Int32), (0 : Int32)) = some r ∧ r.1 = verS (FS_kind F) (FS_year F) x y n := by
  refine loop_f (fun i s => s = (verS (FS_kind F) (FS_year F) x y i, nI i)) _ n (by omega) rfl ?_ ?_
  · rintro i s hi rfl
    left
    have c1 : ¬ nI n ≤ nI i := by rw [nI_leI (by omega) (by omega)]; omega
    have c2 : inb (nI i) 80 = true := inb_nI (by omega) (by omega)
    have cl : (nI i).toNatClampNeg = i := nI_clamp (by omega)
    refine ⟨(verS (FS_kind F) (FS_year F) x y (i + 1), nI (i + 1)), ?_, rfl⟩
    rcases verS_in (FS_kind F) (FS_year F) x y i with h | ⟨j, h1, h2⟩
    · simp only [fX0_versionFor_l25, fX0_versionFor_b82, fX0_versionFor_b78, c1, c2, cl, h, if_true, if_false, nI_1, verS]
      repeat' split
      all_goals rfl
    · have c3 : ¬ nI j = -9 := nI_n9 (by omega)
      have c4 : inb (nI j) 80 = true := inb_nI (by omega) (by omega)
      have cj : (nI j).toNatClampNeg = j := nI_clamp (by omega)
      simp only [fX0_versionFor_l25, fX0_versionFor_b82, fX0_versionFor_b78, c1, c2, cl, h2, c3, c4, cj, if_true, if_false, nI_1, verS]
      repeat' split
      all_goals rfl
  · rintro s rfl
    have c1 : nI n ≤ nI n := Int32.le_refl _
    exact ⟨(verS (FS_kind F) (FS_year F) x y n, nI n), by simp only [fX0_versionFor_l25, c1, if_true], rfl⟩
/-- how many versions count -/
def asN (n : Nat) (as : Int32) : Nat := if as = -9 then n else as.toNatClampNeg + 1
theorem verC {F : FS} {n : Nat} (hn : n ≤ 80) (hs : FS_size F = nI n) (x y as : Int32) (ha : as = -9 ∨ inb as n = true) : fX0_versionFor F x y as = some (verS (FS_kind F) (FS_year F) x y (asN n as)) := by
  unfold fX0_versionFor
  by_cases h : as = -9
  · rw [if_pos h, hs]
    obtain ⟨r, h1, h2⟩ := verC_loop F x y n hn
    simp only [fX0_versionFor_b16, h1, Option.bind_some, h2, asN, if_pos h]
  · rw [if_neg h]
    rcases ha with ha | ha
    · exact absurd ha h
    obtain ⟨j, hj, rfl⟩ := inb_of ha (by omega)
    obtain ⟨r, h1, h2⟩ := verC_loop F x y (j + 1) (by omega)
    simp only [fX0_versionFor_b16, nI_1, h1, Option.bind_some, h2, asN, if_neg h, nI_clamp (show j < 2 ^ 31 by omega)]
theorem verM {m : MS} {n : Nat} (hn : n ≤ 80) (hs : MS_versions m = nI n) (x y as : Int32) (ha : as = -9 ∨ inb as n = true) : fX6_versionOf m x y as = some (verS (MS_ofKind m) (MS_ofYear m) x y (asN n as)) := by
  unfold fX6_versionOf
  have key : ∃ r, loopN (fun (s : Int32 × Int32) => fX6_versionOf_l7 m x y as s.1 s.2) fuelN ((-9 : Int32), (0 : Int32)) = some r ∧ r.1 = verS (MS_ofKind m) (MS_ofYear m) x y (asN n as) := by
    have hN : asN n as ≤ n ∧ ((as = -9 ∧ asN n as = n) ∨ (asN n as ≥ 1 ∧ as = nI (asN n as - 1))) := by
      unfold asN
      by_cases h : as = -9
      · rw [if_pos h]; exact ⟨Nat.le_refl _, Or.inl ⟨h, rfl⟩⟩
      · rw [if_neg h]
        rcases ha with ha | ha
        · exact absurd ha h
        obtain ⟨j, hj, rfl⟩ := inb_of ha (by omega)
        rw [nI_clamp (by omega)]
        exact ⟨by omega, Or.inr ⟨by omega, by simp⟩⟩
    obtain ⟨hN1, hN2⟩ := hN
    generalize asN n as = N at hN1 hN2
    have step : ∀ i, i < N → fX6_versionOf_l7 m x y as (verS (MS_ofKind m) (MS_ofYear m) x y i) (nI i) = some (.inl (verS (MS_ofKind m) (MS_ofYear m) x y (i + 1), nI (i + 1))) := by
      intro i hi
      have c1 : ¬ nI n ≤ nI i := by rw [nI_leI (by omega) (by omega)]; omega
      have c2 : inb (nI i) 80 = true := inb_nI (by omega) (by omega)
      have cl : (nI i).toNatClampNeg = i := nI_clamp (by omega)
      have go : fX6_versionOf_l7 m x y as (verS (MS_ofKind m) (MS_ofYear m) x y i) (nI i) = fX6_versionOf_b28 m x y as (verS (MS_ofKind m) (MS_ofYear m) x y i) (nI i) := by
        unfold fX6_versionOf_l7
        rw [hs, if_neg c1]
        rcases hN2 with ⟨h, -⟩ | ⟨h1, h2⟩
        · rw [if_pos h]
        · have c5 : ¬ as < nI i := by rw [h2, nI_ltI (by omega) (by omega)]; omega
          have c6 : ¬ as = -9 := by rw [h2]; exact nI_n9 (by omega)
          rw [if_neg c6, if_neg c5]
      rw [go]
      rcases verS_in (MS_ofKind m) (MS_ofYear m) x y i with h | ⟨j, h1, h2⟩
      · simp only [fX6_versionOf_b28, fX6_versionOf_b79, fX6_versionOf_b74, fX6_versionOf_b81, c2, cl, h, if_true, if_false, nI_1, verS]
        repeat' split
        all_goals rfl
      · have c3 : ¬ nI j = -9 := nI_n9 (by omega)
        have c4 : inb (nI j) 80 = true := inb_nI (by omega) (by omega)
        have cj : (nI j).toNatClampNeg = j := nI_clamp (by omega)
        simp only [fX6_versionOf_b28, fX6_versionOf_b79, fX6_versionOf_b74, fX6_versionOf_b81, c2, cl, h2, c3, c4, cj, if_true, if_false, nI_1, verS]
        repeat' split
        all_goals rfl
    refine loop_f (fun i s => s = (verS (MS_ofKind m) (MS_ofYear m) x y i, nI i)) _ N (by omega) rfl ?_ ?_
    · rintro i s hi rfl
      exact Or.inl ⟨_, step i hi, rfl⟩
    · rintro s rfl
      refine ⟨(verS (MS_ofKind m) (MS_ofYear m) x y N, nI N), ?_, rfl⟩
      show fX6_versionOf_l7 m x y as (verS (MS_ofKind m) (MS_ofYear m) x y N) (nI N) = _
      unfold fX6_versionOf_l7
      rw [hs]
      by_cases c1 : nI n ≤ nI N
      · rw [if_pos c1]
      · rw [if_neg c1]
        rcases hN2 with ⟨-, h⟩ | ⟨h1, h2⟩
        · subst h; exact absurd (Int32.le_refl _) c1
        · have c5 : as < nI N := by rw [h2, nI_ltI (by omega) (by omega)]; omega
          have c6 : ¬ as = -9 := by rw [h2]; exact nI_n9 (by omega)
          rw [if_neg c6, if_pos c5]
  obtain ⟨r, h1, h2⟩ := key
  rw [h1]
  simp only [Option.bind_some, h2]
/-- an end of a version -/
def endS (lo hi : Nat → Int32) (v : Int32) (h : Int32) : Int32 := if v = -9 then -9 else (if h = 0 then lo v.toNatClampNeg else hi v.toNatClampNeg)
theorem asN_le {n : Nat} {as : Int32} (hn : n ≤ 80) (ha : as = -9 ∨ inb as n = true) : asN n as ≤ n := by
  unfold asN
  by_cases h : as = -9
  · rw [if_pos h]; exact Nat.le_refl _
  · rw [if_neg h]
    rcases ha with ha | ha
    · exact absurd ha h
    obtain ⟨j, hj, rfl⟩ := inb_of ha (by omega)
    rw [nI_clamp (by omega)]; omega
theorem endC (F : FS) (v h : Int32) {n : Nat} (hn : n ≤ 80) (hv : v = -9 ∨ ∃ j, j < n ∧ v = nI j) : fX0_endOf F v h = some (endS (FS_low F) (FS_high F) v h) := by
  unfold fX0_endOf endS
  rcases hv with hv | ⟨j, hj, rfl⟩
  · rw [if_pos hv, if_pos hv]
  · have c3 : ¬ nI j = -9 := nI_n9 (by omega)
    have c4 : inb (nI j) 80 = true := inb_nI (by omega) (by omega)
    rw [if_neg c3, if_neg c3]
    by_cases h0 : h = 0
    · rw [if_pos h0, if_pos h0, if_pos c4]
    · rw [if_neg h0, if_neg h0, if_pos c4]
theorem verS_n (kd yr : Nat → Int32) (x y as : Int32) {n : Nat} (hn : n ≤ 80) (ha : as = -9 ∨ inb as n = true) : verS kd yr x y (asN n as) = -9 ∨ ∃ j, j < n ∧ verS kd yr x y (asN n as) = nI j := by
  rcases verS_in kd yr x y (asN n as) with h | ⟨j, h1, h2⟩
  · exact Or.inl h
  · exact Or.inr ⟨j, by have := asN_le hn ha; omega, h2⟩
/-- the factor -/
def facS (F : FS) (n : Nat) (x y as h : Int32) : Int32 := endS (FS_low F) (FS_high F) (verS (FS_kind F) (FS_year F) x y (asN n as)) h
theorem facM {F : FS} {m : MS} {n : Nat} (e1 : FS_kind F = MS_ofKind m) (e2 : FS_year F = MS_ofYear m) (e3 : FS_low F = MS_low m) (e4 : FS_high F = MS_high m) (hn : n ≤ 80) (hs : MS_versions m = nI n) (x y as h : Int32) (ha : as = -9 ∨ inb as n = true) : fX6_factorOf m x y as h = some (facS F n x y as h) := by
  unfold fX6_factorOf facS
  rw [verM hn hs x y as ha, e1, e2, e3, e4]
  simp only [Option.bind_some]
  unfold endS
  rcases verS_n (MS_ofKind m) (MS_ofYear m) x y as hn ha with hv | ⟨j, hj, hv⟩
  · rw [if_pos hv, if_pos hv]
  · rw [hv]
    have c3 : ¬ nI j = -9 := nI_n9 (by omega)
    have c4 : inb (nI j) 80 = true := inb_nI (by omega) (by omega)
    rw [if_neg c3, if_neg c3]
    by_cases h0 : h = 0
    · rw [if_pos h0, if_pos h0, if_pos c4]
    · rw [if_neg h0, if_neg h0, if_pos c4]
theorem isAsOf_eq {st : LG} {n : Nat} (hs : FS_size (LG_F st) = nI n) (hn : n ≤ 80) (x : Int32) : fX5_isAsOf st x = some (if x = -9 ∨ inb x n = true then 1 else 0) := by
  unfold fX5_isAsOf fX5_isAsOf_b21
  by_cases h : x = -9
  · rw [if_pos h, if_pos (Or.inl h)]
  · rw [if_neg h, hs, chk_eq x (by omega)]
    by_cases h2 : inb x n = true <;> simp [h, h2]
theorem noAs_eq {st : MS} {n : Nat} (hs : MS_versions st = nI n) (hn : n ≤ 80) (x : Int32) : fX6_noAs st x = some (if x = -9 ∨ inb x n = true then 0 else 1) := by
  unfold fX6_noAs
  by_cases h : x = -9
  · rw [if_pos h, if_pos (Or.inl h)]
  · rw [if_neg h, hs]
    by_cases h0 : n = 0
    · subst h0
      have : ¬ inb x 0 = true := by rw [inb_iff]; omega
      have e : (Int32.toInt64 (nI 0 - 1)).toInt = -1 := by decide
      rw [in_eq, e]
      have t0 : (0 : Int64).toInt = 0 := rfl
      rw [if_neg (by rw [t0]; omega)]
      simp [h, this]
    · rw [nx_eq x _ n (sub1_toInt (by omega) (by omega))]
      by_cases h2 : inb x n = true <;> simp [h, h2]
theorem st_factorAs {k : Nat} {lst : LG} {mst : MS} (hR : Rel k lst mst) (hk : k < 512) (z1 z2 z3 z4 : Int32) (hz4 : isB z4 = true) : ∃ (r : Int32) (mst2 : MS), fX5_factorAs lst z1 z2 z3 z4 = some r ∧ fX6_factorAs mst z1 z2 z3 z4 = some (r, mst2) ∧ Rel (k + 1) lst mst2 := by
  have hR0 := hR
  obtain ⟨u, hu1, hu2, hl, hm, h5, hF, h7, h8⟩ := hR
  obtain ⟨e1, e2, e3, e4, e5, n, hn, hsz, hok⟩ := hF
  have hv : MS_versions (MS_thrown_s mst 0) = nI n := by rw [← hsz, e5]; rfl
  have good : ∀ v : Int32, fX5_factorAs lst z1 z2 z3 z4 = some v → fX6_factorAs mst z1 z2 z3 z4 = some (v, MS_thrown_s mst 0) → ∃ (r : Int32) (mst2 : MS), fX5_factorAs lst z1 z2 z3 z4 = some r ∧ fX6_factorAs mst z1 z2 z3 z4 = some (r, mst2) ∧ Rel (k + 1) lst mst2 := fun v h1 h2 => ⟨v, _, h1, h2, Rel_up (Rel_thr hR0)⟩
  by_cases c1 : z3 = -9 ∨ inb z3 n = true
  case neg => exact good (-1) (by simp [fX5_factorAs, isAsOf_eq hsz hn, c1]) (by simp [fX6_factorAs, bnd, noAs_eq hv hn, c1])
  by_cases c2 : inb z1 4 = true
  case neg => exact good (-2) (by simp [fX5_factorAs, isAsOf_eq hsz hn, c1, isKind_eq, c2]) (by simp [fX6_factorAs, fX6_factorAs_b34, bnd, noAs_eq hv hn, c1, inKind_eq, c2])
  by_cases c3 : inb z2 10 = true
  case neg => exact good (-2) (by simp [fX5_factorAs, isAsOf_eq hsz hn, c1, isKind_eq, c2, isYear_eq, c3]) (by simp [fX6_factorAs, fX6_factorAs_b34, bnd, noAs_eq hv hn, c1, inKind_eq, c2, noYear_eq, c3])
  refine good (facS (LG_F lst) n z1 z2 z3 z4) ?_ ?_
  · simp only [fX5_factorAs, isAsOf_eq hsz hn, c1, isKind_eq, c2, isYear_eq, c3, verC hn hsz z1 z2 z3 c1, endC (LG_F lst) _ z4 hn (verS_n _ _ z1 z2 z3 hn c1), Option.bind_some, if_true]
    simp [facS]
  · simp only [fX6_factorAs, bnd, noAs_eq hv hn, c1, inKind_eq, c2, noYear_eq, c3, facM (F := LG_F lst) (m := MS_thrown_s mst 0) e1 e2 e3 e4 hn hv z1 z2 z3 z4 c1, Option.bind_some, if_true]
    simp
