/-! issue -/
def FrS (T m : MS) : Prop := MS_units T = MS_units m ∧ (∀ u R, RowRel u R m → RowRel u R T) ∧ (∀ F, FacRel F m → FacRel F T) ∧ (∀ u H, HoldRel u H m → HoldRel u H T)
theorem FrS_rf (m : MS) : FrS m m := ⟨rfl, fun _ _ h => h, fun _ h => h, fun _ _ h => h⟩
theorem FrS_serials {T m : MS} (h : FrS T m) (v : Int32) : FrS (MS_serials_s T v) m := ⟨h.1, fun u R q => tr_Row_serials (h.2.1 u R q), fun F q => tr_Fac_serials (h.2.2.1 F q), fun u H q => tr_Hold_serials (h.2.2.2 u H q)⟩
theorem FrS_owner {T m : MS} (h : FrS T m) (v : Nat → Int32) : FrS (MS_owner_s T v) m := ⟨h.1, fun u R q => tr_Row_owner (h.2.1 u R q), fun F q => tr_Fac_owner (h.2.2.1 F q), fun u H q => tr_Hold_owner (h.2.2.2 u H q)⟩
theorem FrS_used {T m : MS} (h : FrS T m) (v : Nat → Int32) : FrS (MS_used_s T v) m := ⟨h.1, fun u R q => tr_Row_used (h.2.1 u R q), fun F q => tr_Fac_used (h.2.2.1 F q), fun u H q => tr_Hold_used (h.2.2.2 u H q)⟩
theorem issue_loop {m : MS} {t n : Nat} (o x3 : Int32) (hs : MS_serials m = nI t) (h2 : t + n ≤ 20000) : ∃ y, loopN (fun (s : MS × Int32) => fX6_issue_l55 o (nI n) x3 s.1 s.2) fuelN (m, (0 : Int32)) = some y ∧ MS_serials y.1 = nI (t + n) ∧ (∀ x, MS_owner y.1 x = if t < x ∧ x ≤ t + n then o else MS_owner m x) ∧ (∀ x, MS_used y.1 x = if t < x ∧ x ≤ t + n then (-9 : Int32) else MS_used m x) ∧ FrS y.1 m := by
  have i1 : ∀ x, MS_owner m x = if t < x ∧ x ≤ t + 0 then o else MS_owner m x := fun x => by rw [if_neg (by omega)]
  have i2 : ∀ x, MS_used m x = if t < x ∧ x ≤ t + 0 then (-9 : Int32) else MS_used m x := fun x => by rw [if_neg (by omega)]
  have i3 : MS_serials m = nI (t + 0) := hs
  refine loop_f (fun (i : Nat) (s : MS × Int32) => MS_serials s.1 = nI (t + i) ∧ (∀ x, MS_owner s.1 x = if t < x ∧ x ≤ t + i then o else MS_owner m x) ∧ (∀ x, MS_used s.1 x = if t < x ∧ x ≤ t + i then (-9 : Int32) else MS_used m x) ∧ FrS s.1 m ∧ s.2 = nI i) _ n (by omega) ⟨i3, i1, i2, FrS_rf m, zero_nI⟩ ?_ ?_
  · rintro i ⟨T, y⟩ hi ⟨a1, a2, a3, a4, a5⟩
    simp only at a1 a2 a3 a4 a5
    subst a5
    left
    have c1 : ¬ nI n ≤ nI i := by rw [nI_leI (by omega) (by omega)]; omega
    have e1 : nI (t + i) + 1 = nI (t + i + 1) := nI_1 (t + i)
    have c2 : inb (nI (t + i + 1)) 20001 = true := inb_nI (by omega) (by omega)
    have c3 : (nI (t + i + 1)).toNatClampNeg = t + i + 1 := nI_clamp (by omega)
    refine ⟨(MS_used_s (MS_owner_s (MS_serials_s T (nI (t + i + 1))) (upd (MS_owner T) (t + i + 1) o)) (upd (MS_used T) (t + i + 1) (-9)), nI (i + 1)), ?_, ?_, ?_, ?_, FrS_used (FrS_owner (FrS_serials a4 _) _) _, rfl⟩
    · simp only [fX6_issue_l55, bnd, c1, if_false, a1, e1, MS_serials_serials, MS_serials_owner, MS_owner_serials, MS_used_owner, MS_used_serials, c2, c3, if_true, nI_1]
    · simp only [MS_serials_used, MS_serials_owner, MS_serials_serials]; rfl
    · intro x
      simp only [MS_owner_used, MS_owner_owner]
      by_cases q : x = t + i + 1
      · subst q; rw [upd_s, if_pos (by omega)]
      · rw [upd_n _ _ q, a2]
        by_cases q2 : t < x ∧ x ≤ t + i
        · rw [if_pos q2, if_pos (by omega)]
        · rw [if_neg q2, if_neg (by omega)]
    · intro x
      simp only [MS_used_used]
      by_cases q : x = t + i + 1
      · subst q; rw [upd_s, if_pos (by omega)]
      · rw [upd_n _ _ q, a3]
        by_cases q2 : t < x ∧ x ≤ t + i
        · rw [if_pos q2, if_pos (by omega)]
        · rw [if_neg q2, if_neg (by omega)]
  · rintro ⟨T, y⟩ ⟨a1, a2, a3, a4, a5⟩
    simp only at a1 a2 a3 a4 a5
    subst a5
    have c1 : nI n ≤ nI n := Int32.le_refl _
    exact ⟨(T, nI n), by simp only [fX6_issue_l55, c1, if_true], a1, a2, a3, a4⟩
theorem add_eq {sz t : Nat} {fs : Nat → Nat} {S : SS} {ow us : Nat → Int32} (h : RunsOk sz t fs S ow us) (hadj : AdjP (SS_owner S) (SS_row S) sz) (hsz : sz ≤ 1023) {n : Nat} (h1 : 1 ≤ n) (h2 : t + n ≤ 20000) (o : Int32) : ∃ S' sz' gs, fX3_add S o (nI n) = some (nI (t + 1), S') ∧ RunsOk sz' (t + n) gs S' (fun x => if t < x ∧ x ≤ t + n then o else ow x) (fun x => if t < x ∧ x ≤ t + n then -9 else us x) ∧ sz' ≤ sz + 1 ∧ AdjP (SS_owner S') (SS_row S') sz' := by
  have sl := sz_le h
  obtain ⟨⟨p1, p2, p3, p4⟩, p5, p6, p7, p8, p9, p10, p11⟩ := id h
  have e20 : (20000 : Int32) - nI t = nI (20000 - t) := pk_sub (a := 20000) (by omega)
  have q1 : nI n ≤ nI (20000 - t) := nI_le (by omega) (by omega)
  have old : ∀ i, i < sz → ∀ x, fs i ≤ x → x < fs (i + 1) → ¬ (t < x ∧ x ≤ t + n) := by
    intro i hi x _ hx2
    have := (fs_le h (i := i + 1) (by omega)).2
    omega
  by_cases g : 0 < sz ∧ SS_owner S (sz - 1) = o ∧ SS_row S (sz - 1) = -9
  · obtain ⟨g1, g2, g3⟩ := g
    have z1 : ¬ nI sz = 0 := nI_ne0 g1 (by omega)
    have ek : nI sz - 1 = nI (sz - 1) := by rw [one_nI]; exact pk_sub (by omega)
    have c6 : inb (nI (sz - 1)) (SS_cap S) = true := inb_nI (by omega) (by omega)
    have c7 : (nI (sz - 1)).toNatClampNeg = sz - 1 := nI_clamp (by omega)
    refine ⟨SS_issued_s S (nI (t + n)), sz, gsU fs sz (t + n + 1), ?_, ⟨⟨?_, ?_, ?_, ?_⟩, gsU_s _ _ _, p6, p7, p8, p9, rfl, by omega⟩, by omega, hadj⟩
    · simp only [fX3_add, fX3_add_b72, p9, p10, e20, q1, z1, ek, c6, c7, g2, g3, if_true, if_false, nI_1, nI_add]
    · rw [gsU_n _ _ (by omega)]; exact p1
    · intro i hi; rw [gsU_n _ _ (by omega)]; exact p2 i hi
    · intro i hi
      rw [gsU_n _ _ (by omega)]
      by_cases w : i + 1 = sz
      · rw [w, gsU_s]; have := p3 i hi; rw [w, p5] at this; omega
      · rw [gsU_n _ _ w]; exact p3 i hi
    · intro i hi x hx1 hx2
      rw [gsU_n _ _ (by omega)] at hx1
      show (if t < x ∧ x ≤ t + n then o else ow x) = SS_owner S i ∧ (if t < x ∧ x ≤ t + n then -9 else us x) = SS_row S i
      by_cases w : i + 1 = sz
      · rw [w, gsU_s] at hx2
        have ei : i = sz - 1 := by omega
        by_cases v : t < x ∧ x ≤ t + n
        · rw [if_pos v, if_pos v, ei, g2, g3]; exact ⟨rfl, rfl⟩
        · rw [if_neg v, if_neg v]
          exact p4 i hi x hx1 (by rw [w, p5]; omega)
      · rw [gsU_n _ _ w] at hx2
        have v := old i hi x hx1 hx2
        rw [if_neg v, if_neg v]
        exact p4 i hi x hx1 hx2
  · obtain ⟨S1, a1, a2, a3, a4, a5, a6, a7⟩ := insertRun_eq p9 p6 p7 p8 hsz (p := sz) (Nat.le_refl _) (nI (t + 1)) o (-9)
    have b60 : fX3_add_b60 S o (nI n) (nI t + 1) = some (nI (t + 1), SS_issued_s S1 (nI (t + n))) := by
      simp only [fX3_add_b60, fX3_add_b72, p9, nI_1, a1, Option.bind_some, a3, p10, nI_add]
    have lo : ∀ j, j < sz → SS_first S1 j = SS_first S j ∧ SS_owner S1 j = SS_owner S j ∧ SS_row S1 j = SS_row S j := by
      intro j hj
      obtain ⟨b1, b2, b3⟩ := a7 j (by omega)
      unfold insF at b1 b2 b3
      rw [if_pos hj] at b1 b2 b3
      exact ⟨b1, b2, b3⟩
    have hi_ : SS_first S1 sz = nI (t + 1) ∧ SS_owner S1 sz = o ∧ SS_row S1 sz = -9 := by
      obtain ⟨b1, b2, b3⟩ := a7 sz (Nat.le_refl _)
      unfold insF at b1 b2 b3
      rw [if_neg (by omega), if_pos rfl] at b1 b2 b3
      exact ⟨b1, b2, b3⟩
    refine ⟨SS_issued_s S1 (nI (t + n)), sz + 1, gsU fs (sz + 1) (t + n + 1), ?_, ⟨⟨?_, ?_, ?_, ?_⟩, gsU_s _ _ _, a4, a5, a6, a2, rfl, by omega⟩, Nat.le_refl _, ?_⟩
    · by_cases z0 : sz = 0
      · have z1 : nI sz = 0 := by rw [z0]; rfl
        simp only [fX3_add, p9, p10, e20, q1, z1, if_true, b60]
      · have z1 : ¬ nI sz = 0 := nI_ne0 (by omega) (by omega)
        have ek : nI sz - 1 = nI (sz - 1) := by rw [one_nI]; exact pk_sub (by omega)
        have c6 : inb (nI (sz - 1)) (SS_cap S) = true := inb_nI (by omega) (by omega)
        have c7 : (nI (sz - 1)).toNatClampNeg = sz - 1 := nI_clamp (by omega)
        by_cases w1 : SS_owner S (sz - 1) = o
        · have w2 : ¬ SS_row S (sz - 1) = -9 := fun w => g ⟨by omega, w1, w⟩
          simp only [fX3_add, p9, p10, e20, q1, z1, ek, c6, c7, w1, w2, if_true, if_false, b60]
        · simp only [fX3_add, p9, p10, e20, q1, z1, ek, c6, c7, w1, if_true, if_false, b60]
    · rw [gsU_n _ _ (by omega)]; exact p1
    · intro i hi
      rw [gsU_n _ _ (by omega)]
      show SS_first S1 i = _
      by_cases w : i = sz
      · rw [w, hi_.1, p5]
      · rw [(lo i (by omega)).1]; exact p2 i (by omega)
    · intro i hi
      rw [gsU_n _ _ (by omega)]
      by_cases w : i = sz
      · subst w; rw [gsU_s, p5]; omega
      · rw [gsU_n _ _ (by omega)]; exact p3 i (by omega)
    · intro i hi x hx1 hx2
      rw [gsU_n _ _ (by omega)] at hx1
      show (if t < x ∧ x ≤ t + n then o else ow x) = SS_owner S1 i ∧ (if t < x ∧ x ≤ t + n then -9 else us x) = SS_row S1 i
      by_cases w : i = sz
      · subst w
        rw [gsU_s] at hx2
        rw [p5] at hx1
        have v : t < x ∧ x ≤ t + n := by omega
        rw [if_pos v, if_pos v, hi_.2.1, hi_.2.2]
        exact ⟨rfl, rfl⟩
      · rw [gsU_n _ _ (by omega)] at hx2
        have v := old i (by omega) x hx1 hx2
        rw [if_neg v, if_neg v, (lo i (by omega)).2.1, (lo i (by omega)).2.2]
        exact p4 i (by omega) x hx1 hx2
    · intro i hi
      show SS_owner S1 i ≠ SS_owner S1 (i + 1) ∨ SS_row S1 i ≠ SS_row S1 (i + 1)
      by_cases w : i + 1 = sz
      · rw [w, hi_.2.1, hi_.2.2, (lo i (by omega)).2.1, (lo i (by omega)).2.2]
        have ei : i = sz - 1 := by omega
        rw [ei]
        by_cases w1 : SS_owner S (sz - 1) = o
        · exact Or.inr (fun w2 => g ⟨by omega, w1, w2⟩)
        · exact Or.inl w1
      · rw [(lo i (by omega)).2.1, (lo i (by omega)).2.2, (lo (i + 1) (by omega)).2.1, (lo (i + 1) (by omega)).2.2]
        exact hadj i (by omega)
theorem st_issue {k : Nat} {lst : LG} {mst : MS} (hR : Rel k lst mst) (hk : k < 512) (z1 z2 : Int32) : ∃ (r : Int32) (lst2 : LG) (mst2 : MS), fX5_issue lst z1 z2 = some (r, lst2) ∧ fX6_issue mst z1 z2 = some (r, mst2) ∧ Rel (k + 1) lst2 mst2 := by
  have hR0 := hR
  obtain ⟨u, hu1, hu2, hl, hm, hRow, hF, h7, h8⟩ := hR
  obtain ⟨sz, t, fs, hsz, hok, hser, hadj⟩ := SerRel_iff.mp h8
  have ht := hok.2.2.2.2.2.2.2
  have hi := hok.2.2.2.2.2.2.1
  have hm' : MS_units (MS_thrown_s mst 0) = nI u := hm
  have hser' : MS_serials (MS_thrown_s mst 0) = nI t := hser
  have good : ∀ v : Int32, fX5_issue lst z1 z2 = some (v, lst) → fX6_issue mst z1 z2 = some (v, MS_thrown_s mst 0) → ∃ (r : Int32) (lst2 : LG) (mst2 : MS), fX5_issue lst z1 z2 = some (r, lst2) ∧ fX6_issue mst z1 z2 = some (r, mst2) ∧ Rel (k + 1) lst2 mst2 := fun v h1 h2 => ⟨v, lst, _, h1, h2, Rel_up (Rel_thr hR0)⟩
  by_cases c1 : inb z1 u = true
  case neg => exact good (-1) (by simp [fX5_issue, isUnit_eq hl hu2, c1]) (by simp [fX6_issue, bnd, noUnit_eq hm' hu1 hu2, c1])
  have t3 : (1 : Int64).toInt = 1 := by decide
  have t4 : (20000 : Int64).toInt = 20000 := by decide
  have t5 : (20000 : Int32).toInt = 20000 := by decide
  have ha : fX6_in (Int32.toInt64 z2) 1 20000 = some (if 1 ≤ z2.toInt ∧ z2.toInt ≤ 20000 then 1 else 0) := by rw [in_eq, t3, t4]
  by_cases c2 : z2 < 1
  case pos =>
    have q : ¬ (1 ≤ z2.toInt ∧ z2.toInt ≤ 20000) := by rw [lt1_toInt] at c2; omega
    exact good (-2) (by simp [fX5_issue, isUnit_eq hl hu2, c1, c2]) (by simp [fX6_issue, bnd, noUnit_eq hm' hu1 hu2, c1, ha, q])
  by_cases c3 : z2 ≤ 20000
  case neg =>
    have q : ¬ (1 ≤ z2.toInt ∧ z2.toInt ≤ 20000) := by rw [Int32.le_iff_toInt_le, t5] at c3; omega
    exact good (-2) (by simp [fX5_issue, isUnit_eq hl hu2, c1, c2, c3]) (by simp [fX6_issue, bnd, noUnit_eq hm' hu1 hu2, c1, ha, q])
  have q : (1 ≤ z2.toInt ∧ z2.toInt ≤ 20000) := by rw [Int32.le_iff_toInt_le, t5] at c3; rw [lt1_toInt] at c2; omega
  obtain ⟨n, hn1, hn2, rfl⟩ := ge1 c2
  rw [nI_toInt hn2] at q
  have e20 : (20000 : Int32) - nI t = nI (20000 - t) := pk_sub (a := 20000) (by omega)
  have qq : 1 ≤ (nI n).toInt ∧ (nI n).toInt ≤ 20000 := by rw [nI_toInt hn2]; omega
  by_cases c4 : t + n ≤ 20000
  case neg =>
    have w1 : ¬ nI n ≤ (20000 : Int32) - SS_issued (LG_S lst) := by rw [hi, e20, nI_leI (by omega) (by omega)]; omega
    have w2 : ¬ MS_serials (MS_thrown_s mst 0) + nI n ≤ 20000 := by rw [hser', nI_add]; exact fun w => by rw [show (20000 : Int32) = nI 20000 from rfl, nI_leI (by omega) (by omega)] at w; omega
    exact good (-4) (by simp [fX5_issue, isUnit_eq hl hu2, c1, c2, c3, fX3_add, w1, LG_eta]) (by simp [fX6_issue, bnd, noUnit_eq hm' hu1 hu2, c1, ha, qq, w2])
  have w2 : MS_serials (MS_thrown_s mst 0) + nI n ≤ 20000 := by rw [hser', nI_add]; exact nI_le (b := 20000) (by omega) (by omega)
  obtain ⟨S', sz', gs, m1, m2, m3, m4⟩ := add_eq hok hadj (by omega) hn1 c4 z1
  obtain ⟨y, l1, l2, l3, l4, l5⟩ := issue_loop (m := MS_thrown_s mst 0) z1 (MS_serials (MS_thrown_s mst 0) + 1) hser' c4
  have e1 : MS_serials (MS_thrown_s mst 0) + 1 = nI (t + 1) := by rw [hser', nI_1]
  refine ⟨nI (t + 1), LG_mk (LG_H lst) (LG_R lst) (LG_F lst) S' (LG_units lst), y.1, ?_, ?_, ?_⟩
  · simp [fX5_issue, isUnit_eq hl hu2, c1, c2, c3, m1]
  · simp only [fX6_issue, bnd, noUnit_eq hm' hu1 hu2, c1, ha, w2, l1, Option.bind_some, if_true]
    simp [qq, e1]
  · refine ⟨u, hu1, hu2, hl, by rw [l5.1]; exact hm, l5.2.1 _ _ (tr_Row_thrown hRow), l5.2.2.1 _ (tr_Fac_thrown hF), l5.2.2.2 _ _ (tr_Hold_thrown h7), ?_⟩
    refine SerRel_of (fs := gs) (by omega) ⟨RunP_congr m2.1 (fun x hx1 hx2 => ⟨?_, ?_⟩), m2.2⟩ l2 m4
    · rw [l3]; rfl
    · rw [l4]; rfl
