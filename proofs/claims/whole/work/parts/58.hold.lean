/-! the reference writes a holding; hold -/
theorem find_eq {m : MS} {n a b d : Nat} {M : Nat → Ent} (x3 x5 : Int32) (hM : HoldM n M m) (hn : n ≤ 100) (hb : ∀ i, i < n → (M i).1 < 10 ∧ (M i).2.1 < 10 ∧ (M i).2.2.2 < 3650) (ha : a < 10) (hb' : b < 10) (hd : d < 3650) : ∃ y, loopN (fun (s : Int32 × Int32) => fX6_hold_l95 m (nI a) (nI b) x3 (nI d) x5 s.1 s.2) fuelN (nI n, (0 : Int32)) = some y ∧ ((y.1 = nI n ∧ ∀ i, i < n → (M i).1 = a → (M i).2.1 = b → (M i).2.2.2 = d → False) ∨ ∃ i, i < n ∧ y.1 = nI i ∧ (M i).1 = a ∧ (M i).2.1 = b ∧ (M i).2.2.2 = d) := by
  refine loop_f (fun (i : Nat) (s : Int32 × Int32) => s.2 = nI i ∧ ((s.1 = nI n ∧ ∀ j, j < i → (M j).1 = a → (M j).2.1 = b → (M j).2.2.2 = d → False) ∨ ∃ j, j < i ∧ s.1 = nI j ∧ (M j).1 = a ∧ (M j).2.1 = b ∧ (M j).2.2.2 = d)) _ n (by omega) ⟨rfl, Or.inl ⟨rfl, fun j hj => by omega⟩⟩ ?_ ?_
  · rintro i ⟨x, y⟩ hi ⟨a1, a2⟩
    simp only at a1 a2
    subst a1
    left
    obtain ⟨v1, v2, v3, v4⟩ := hM.2 i hi
    obtain ⟨b1, b2, b3⟩ := hb i hi
    have c1 : ¬ nI n ≤ nI i := by rw [nI_leI (by omega) (by omega)]; omega
    have c2 : inb (nI i) 100 = true := inb_nI (by omega) (by omega)
    have c3 : (nI i).toNatClampNeg = i := nI_clamp (by omega)
    have skip : fX6_hold_l95 m (nI a) (nI b) x3 (nI d) x5 x (nI i) = some (.inl (x, nI (i + 1))) → ¬ ((M i).1 = a ∧ (M i).2.1 = b ∧ (M i).2.2.2 = d) → ∃ s' : Int32 × Int32, fX6_hold_l95 m (nI a) (nI b) x3 (nI d) x5 x (nI i) = some (.inl s') ∧ s'.2 = nI (i + 1) ∧ ((s'.1 = nI n ∧ ∀ j, j < i + 1 → (M j).1 = a → (M j).2.1 = b → (M j).2.2.2 = d → False) ∨ ∃ j, j < i + 1 ∧ s'.1 = nI j ∧ (M j).1 = a ∧ (M j).2.1 = b ∧ (M j).2.2.2 = d) := by
      intro h1 h2
      refine ⟨_, h1, rfl, ?_⟩
      rcases a2 with ⟨q1, q2⟩ | ⟨j, j1, j2⟩
      · refine Or.inl ⟨q1, fun j hj w1 w2 w3 => ?_⟩
        by_cases w : j = i
        · subst w; exact h2 ⟨w1, w2, w3⟩
        · exact q2 j (by omega) w1 w2 w3
      · exact Or.inr ⟨j, by omega, j2⟩
    by_cases g1 : (M i).1 = a
    · have q1 : nI (M i).1 = nI a := by rw [g1]
      by_cases g2 : (M i).2.1 = b
      · have q2 : nI (M i).2.1 = nI b := by rw [g2]
        by_cases g3 : (M i).2.2.2 = d
        · have q3 : nI (M i).2.2.2 = nI d := by rw [g3]
          exact ⟨(nI i, nI (i + 1)), by simp only [fX6_hold_l95, fX6_hold_b145, hM.1, c1, c2, c3, v1, v2, v4, q1, q2, q3, if_true, if_false, nI_1], rfl, Or.inr ⟨i, by omega, rfl, g1, g2, g3⟩⟩
        · have q3 : ¬ nI (M i).2.2.2 = nI d := by rw [nI_eq (by omega) (by omega)]; exact g3
          exact skip (by simp only [fX6_hold_l95, fX6_hold_b143, fX6_hold_b145, hM.1, c1, c2, c3, v1, v2, v4, q1, q2, q3, if_true, if_false, nI_1]) (fun w => g3 w.2.2)
      · have q2 : ¬ nI (M i).2.1 = nI b := by rw [nI_eq (by omega) (by omega)]; exact g2
        exact skip (by simp only [fX6_hold_l95, fX6_hold_b143, fX6_hold_b145, hM.1, c1, c2, c3, v1, v2, q1, q2, if_true, if_false, nI_1]) (fun w => g2 w.2.1)
    · have q1 : ¬ nI (M i).1 = nI a := by rw [nI_eq (by omega) (by omega)]; exact g1
      exact skip (by simp only [fX6_hold_l95, fX6_hold_b143, fX6_hold_b145, hM.1, c1, c2, c3, v1, q1, if_true, if_false, nI_1]) (fun w => g1 w.1)
  · rintro ⟨x, y⟩ ⟨a1, a2⟩
    simp only at a1 a2
    subst a1
    have c1 : nI n ≤ nI n := Int32.le_refl _
    exact ⟨(x, nI n), by simp only [fX6_hold_l95, hM.1, c1, if_true], a2⟩
theorem write_M {T0 T : MS} {n n' j a b h d : Nat} {M : Nat → Ent} {old : Int32} {y : Int32 × Int32} (hlay : fX6_lay T0 (nI d) = some T) (hM : HoldM n M T) (hn : n ≤ 100) (ha : a < 10) (hb : b < 10) (hold : MS_held T (10 * a + b) = old) (hy : loopN (fun (s : Int32 × Int32) => fX6_hold_l95 T (nI a) (nI b) (nI h) (nI d) old s.1 s.2) fuelN (nI n, (0 : Int32)) = some y) (hj : y.1 = nI j) (hj1 : j ≤ n) (hj2 : j < 100) (hn' : n' = if j = n then n + 1 else n) : ∃ Z, fX6_hold_b67 T0 (nI a) (nI b) (nI h) (nI d) = some (old, Z) ∧ MS_units Z = MS_units T ∧ (∀ u R, RowRel u R T → RowRel u R Z) ∧ (∀ F, FacRel F T → FacRel F Z) ∧ (∀ k S, SerRel k S T → SerRel k S Z) ∧ HoldM n' (updE M j (a, b, h, d)) Z := by
  have c1 : inb (nI (10 * a + b)) 100 = true := inb_nI (by omega) (by omega)
  have c2 : (nI (10 * a + b)).toNatClampNeg = 10 * a + b := nI_clamp (by omega)
  have c3 : ¬ nI j = 100 := by rw [show (100 : Int32) = nI 100 from rfl, nI_eq (by omega) (by omega)]; omega
  have c4 : inb (nI j) 100 = true := inb_nI hj2 (by omega)
  have c5 : (nI j).toNatClampNeg = j := nI_clamp (by omega)
  obtain ⟨Z1, hZ1⟩ : ∃ Z, Z = MS_who_s T (upd (MS_who T) j (nI a)) := ⟨_, rfl⟩
  obtain ⟨Z2, hZ2⟩ : ∃ Z, Z = MS_whom_s Z1 (upd (MS_whom Z1) j (nI b)) := ⟨_, rfl⟩
  obtain ⟨Z3, hZ3⟩ : ∃ Z, Z = MS_part_s Z2 (upd (MS_part Z2) j (nI h)) := ⟨_, rfl⟩
  obtain ⟨Z4, hZ4⟩ : ∃ Z, Z = MS_since_s Z3 (upd (MS_since Z3) j (nI d)) := ⟨_, rfl⟩
  obtain ⟨Z5, hZ5⟩ : ∃ Z, Z = MS_holdings_s Z4 (nI n') := ⟨_, rfl⟩
  have h4 : MS_holdings Z4 = nI n := by
    rw [hZ4, MS_holdings_since, hZ3, MS_holdings_part, hZ2, MS_holdings_whom, hZ1, MS_holdings_who]; exact hM.1
  have w1 : MS_who Z5 = upd (MS_who T) j (nI a) := by
    rw [hZ5, MS_who_holdings, hZ4, MS_who_since, hZ3, MS_who_part, hZ2, MS_who_whom, hZ1, MS_who_who]
  have w2 : MS_whom Z5 = upd (MS_whom T) j (nI b) := by
    rw [hZ5, MS_whom_holdings, hZ4, MS_whom_since, hZ3, MS_whom_part, hZ2, MS_whom_whom, hZ1, MS_whom_who]
  have w3 : MS_part Z5 = upd (MS_part T) j (nI h) := by
    rw [hZ5, MS_part_holdings, hZ4, MS_part_since, hZ3, MS_part_part, hZ2, MS_part_whom, hZ1, MS_part_who]
  have w4 : MS_since Z5 = upd (MS_since T) j (nI d) := by
    rw [hZ5, MS_since_holdings, hZ4, MS_since_since, hZ3, MS_since_part, hZ2, MS_since_whom, hZ1, MS_since_who]
  refine ⟨Z5, ?_, ?_, fun u R g => ?_, fun F g => ?_, fun k S g => ?_, ?_⟩
  · by_cases g : j = n
    · rw [if_pos g] at hn'
      have g' : nI j = nI n := by rw [g]
      have e : nI n + 1 = nI n' := by rw [nI_1, hn']
      simp only [fX6_hold_b67, hlay, Option.bind_some, at10, c1, c2, hold, hM.1, hy, hj, c3, c4, c5, bnd, ← hZ1, ← hZ2, ← hZ3, ← hZ4, h4, fX6_hold_b219, e, ← hZ5, if_true, if_false]
      rw [if_pos g']
    · rw [if_neg g] at hn'
      have g' : ¬ nI j = nI n := by rw [nI_eq (by omega) (by omega)]; exact g
      subst hn'
      simp only [fX6_hold_b67, hlay, Option.bind_some, at10, c1, c2, hold, hM.1, hy, hj, c3, c4, c5, bnd, ← hZ1, ← hZ2, ← hZ3, ← hZ4, h4, fX6_hold_b219, g', ← hZ5, if_true, if_false]
  · rw [hZ5, MS_units_holdings, hZ4, MS_units_since, hZ3, MS_units_part, hZ2, MS_units_whom, hZ1, MS_units_who]
  · have g1 : RowRel u R Z1 := by rw [hZ1]; exact tr_Row_who g
    have g2 : RowRel u R Z2 := by rw [hZ2]; exact tr_Row_whom g1
    have g3 : RowRel u R Z3 := by rw [hZ3]; exact tr_Row_part g2
    have g4 : RowRel u R Z4 := by rw [hZ4]; exact tr_Row_since g3
    rw [hZ5]; exact tr_Row_holdings g4
  · have g1 : FacRel F Z1 := by rw [hZ1]; exact tr_Fac_who g
    have g2 : FacRel F Z2 := by rw [hZ2]; exact tr_Fac_whom g1
    have g3 : FacRel F Z3 := by rw [hZ3]; exact tr_Fac_part g2
    have g4 : FacRel F Z4 := by rw [hZ4]; exact tr_Fac_since g3
    rw [hZ5]; exact tr_Fac_holdings g4
  · have g1 : SerRel k S Z1 := by rw [hZ1]; exact tr_Ser_who g
    have g2 : SerRel k S Z2 := by rw [hZ2]; exact tr_Ser_whom g1
    have g3 : SerRel k S Z3 := by rw [hZ3]; exact tr_Ser_part g2
    have g4 : SerRel k S Z4 := by rw [hZ4]; exact tr_Ser_since g3
    rw [hZ5]; exact tr_Ser_holdings g4
  · refine ⟨by rw [hZ5, MS_holdings_holdings], fun i hi => ?_⟩
    rw [w1, w2, w3, w4]
    by_cases w : i = j
    · subst w
      rw [updE_s, upd_s, upd_s, upd_s, upd_s]
      exact ⟨rfl, rfl, rfl, rfl⟩
    · rw [updE_n _ _ w, upd_n _ _ w, upd_n _ _ w, upd_n _ _ w, upd_n _ _ w]
      refine hM.2 i ?_
      by_cases g : j = n
      · rw [if_pos g] at hn'; omega
      · rw [if_neg g] at hn'; omega
theorem SpanOk_0 {n : Nat} {C : Nat → Ent} {H : HS} (hn : n ≤ 100) (h : ∀ s, s ≤ 100 → HS_spanIsMade H s = 0) : SpanOk n C H := fun s hs => Or.inl (h s (by omega))
theorem hold_write {k u n a b h d : Nat} {C M : Nat → Ent} {A : LG} {T : MS} (hu1 : 1 ≤ u) (hu2 : u ≤ 10) (hl : LG_units A = nI u) (hm : MS_units T = nI u) (hRow : RowRel u (LG_R A) T) (hF : FacRel (LG_F A) T) (hSer : SerRel k (LG_S A) T) (hC : HoldC n C (LG_H A)) (hM : HoldM n M T) (hE : EntRel u n C M) (hSp : SpanOk n C (LG_H A)) (he : EntOk u (a, b, h, d)) {rk : Nat → Nat} (hr : ∀ i, i < n → 0 < (C i).2.2.1 → rk (C i).1 < rk (C i).2.1) (hr2 : 0 < h → rk a < rk b) : ∃ (r : Int32) (A' : LG) (T' : MS), fX5_hold_b60 A (nI a) (nI b) (nI h) (nI d) = some (r, A') ∧ fX6_hold_b67 T (nI a) (nI b) (nI h) (nI d) = some (r, T') ∧ Rel k A' T' := by
  have hn := hE.1
  obtain ⟨bC, bM⟩ := entB hE hu2
  obtain ⟨ha, hb, hh, hd, hne⟩ := he
  simp only at ha hb hh hd
  obtain ⟨s, Z, s1, s2, s3, s4, s5, s6, s7⟩ := day_ex hC hM hE hu2 hd
  have held := heldOn_eq hC hn (fun i hi => ⟨(bC i hi).1, (bC i hi).2.1⟩) (a := a) (b := b) (by omega) (by omega) s1 s2
  have vZ := s5 a b (by omega) (by omega)
  have hMZ := HoldM_fr hM s4
  obtain ⟨y, y1, y2⟩ := find_eq (m := Z) (nI h) (nI (matN C s a b)) hMZ hn (fun i hi => ⟨(bM i hi).1, (bM i hi).2.1, (bM i hi).2.2.1⟩) (by omega : a < 10) (by omega : b < 10) hd
  obtain ⟨r, r1, r2⟩ := place_eq hC hn (fun i hi => ⟨(bC i hi).1, (bC i hi).2.1, (bC i hi).2.2.1⟩) (by omega : a < 10) (by omega : b < 10) hd
  rcases r2 with ⟨p, p1, rfl, p2, p3, p4⟩ | ⟨rfl, no⟩
  · obtain ⟨H', t1, t2, t3⟩ := tell_old (h := h) hC hn held r1 p1 p2 p3 p4
    rcases y2 with ⟨q1, q2⟩ | ⟨q, q1, q2, q3, q4, q5⟩
    · exfalso
      obtain ⟨l, l1, l2⟩ := hE.2.2.1 p p1
      exact q2 l l1 (by rw [l2, p2]) (by rw [l2, p3]) (by rw [l2, p4])
    · obtain ⟨W, v1, v2, v3, v4, v5, v6⟩ := write_M (n' := n) s3 hMZ hn (by omega) (by omega) vZ y1 q2 (by omega) (by omega) (by rw [if_neg (by omega)])
      have hE' := ent_upd (h := h) hE p1 q1 p2 p3 p4 q3 q4 q5 ⟨ha, hb, hh, hd, hne⟩ hr hr2
      refine ⟨_, LG_mk H' (LG_R A) (LG_F A) (LG_S A) (LG_units A), W, by simp only [fX5_hold_b60, t1, Option.bind_some], v1, u, hu1, hu2, hl, v2.trans ((FrA_units s4).trans hm), v3 u _ (FrA_RowRel s4 hRow), v4 _ (FrA_FacRel s4 hF), ⟨n, _, _, t2, v6, hE', SpanOk_0 hn t3⟩, v5 _ _ (FrA_SerRel s4 hSer)⟩
  · rcases y2 with ⟨q1, q2⟩ | ⟨q, q1, q2, q3, q4, q5⟩
    · by_cases g : n = 100
      · subst g
        have c1 : ¬ nI 100 < (100 : Int32) := by decide
        have c2 : inb (nI (10 * a + b)) 100 = true := inb_nI (by omega) (by omega)
        have c3 : (nI (10 * a + b)).toNatClampNeg = 10 * a + b := nI_clamp (by omega)
        have q1' : y.1 = 100 := q1
        refine ⟨-4, LG_mk (LG_H A) (LG_R A) (LG_F A) (LG_S A) (LG_units A), Z, ?_, ?_, u, hu1, hu2, hl, (FrA_units s4).trans hm, FrA_RowRel s4 hRow, FrA_FacRel s4 hF, ⟨100, C, M, hC, hMZ, hE, hSp⟩, FrA_SerRel s4 hSer⟩
        · simp only [fX5_hold_b60, fX1_tell, held, r1, hC.1, c1, Option.bind_some, if_true, if_false]
        · simp only [fX6_hold_b67, s3, Option.bind_some, at10, c2, c3, vZ, hMZ.1, y1, q1', if_true]
      · obtain ⟨H', t1, t2, t3⟩ := tell_new (h := h) hC (by omega) s1 held r1 s2
        obtain ⟨W, v1, v2, v3, v4, v5, v6⟩ := write_M (n' := n + 1) s3 hMZ hn (by omega) (by omega) vZ y1 q1 (by omega) (by omega) (by rw [if_pos rfl])
        have hE' := ent_ins (h := h) hE (by omega) ⟨s1, s6, s7⟩ no ⟨ha, hb, hh, hd, hne⟩ hr hr2
        refine ⟨_, LG_mk H' (LG_R A) (LG_F A) (LG_S A) (LG_units A), W, by simp only [fX5_hold_b60, t1, Option.bind_some], v1, u, hu1, hu2, hl, v2.trans ((FrA_units s4).trans hm), v3 u _ (FrA_RowRel s4 hRow), v4 _ (FrA_FacRel s4 hF), ⟨n + 1, _, _, t2, v6, hE', SpanOk_0 (by omega) t3⟩, v5 _ _ (FrA_SerRel s4 hSer)⟩
    · exfalso
      obtain ⟨l, l1, l2⟩ := hE.2.2.2.1 q q1
      exact no l l1 (by rw [l2, q3]) (by rw [l2, q4]) (by rw [l2, q5])
theorem SpanOk_fr {n : Nat} {C : Nat → Ent} {T H : HS} (h : SpanOk n C H) (e1 : HS_spanShares T = HS_spanShares H) (e2 : HS_spanIsMade T = HS_spanIsMade H) : SpanOk n C T := by
  unfold SpanOk at *; rw [e1, e2]; exact h
theorem EdN_CM {u n p q : Nat} {C M : Nat → Ent} (hE : EntRel u n C M) : EdN n M p q = EdN n C p q := by
  funext a b
  apply propext
  unfold EdN EdC
  constructor
  · rintro (⟨i, h1, h2⟩ | h)
    · obtain ⟨j, j1, j2⟩ := hE.2.2.2.1 i h1
      exact Or.inl ⟨j, j1, by rw [j2]; exact h2⟩
    · exact Or.inr h
  · rintro (⟨i, h1, h2⟩ | h)
    · obtain ⟨j, j1, j2⟩ := hE.2.2.1 i h1
      exact Or.inl ⟨j, j1, by rw [j2]; exact h2⟩
    · exact Or.inr h
theorem st_hold {k : Nat} {lst : LG} {mst : MS} (hR : Rel k lst mst) (hk : k < 512) (z1 z2 z3 z4 : Int32) : ∃ (r : Int32) (lst2 : LG) (mst2 : MS), fX5_hold lst z1 z2 z3 z4 = some (r, lst2) ∧ fX6_hold mst z1 z2 z3 z4 = some (r, mst2) ∧ Rel (k + 1) lst2 mst2 := by
  have hR0 := hR
  obtain ⟨u, hu1, hu2, hl, hm, hRow, hF, h7, h8⟩ := hR
  have hm' : MS_units (MS_thrown_s mst 0) = nI u := hm
  have good : ∀ v : Int32, fX5_hold lst z1 z2 z3 z4 = some (v, lst) → fX6_hold mst z1 z2 z3 z4 = some (v, MS_thrown_s mst 0) → ∃ (r : Int32) (lst2 : LG) (mst2 : MS), fX5_hold lst z1 z2 z3 z4 = some (r, lst2) ∧ fX6_hold mst z1 z2 z3 z4 = some (r, mst2) ∧ Rel (k + 1) lst2 mst2 := fun v h1 h2 => ⟨v, _, _, h1, h2, Rel_up (Rel_thr hR0)⟩
  by_cases c1 : inb z1 u = true
  case neg => exact good (-1) (by simp [fX5_hold, isUnit_eq hl hu2, c1]) (by simp [fX6_hold, bnd, noUnit_eq hm' hu1 hu2, c1])
  by_cases c2 : inb z2 u = true
  case neg => exact good (-1) (by simp [fX5_hold, isUnit_eq hl hu2, c1, c2]) (by simp [fX6_hold, bnd, noUnit_eq hm' hu1 hu2, c1, c2])
  by_cases c3 : inb z3 101 = true
  case neg => exact good (-2) (by simp [fX5_hold, isUnit_eq hl hu2, c1, c2, isHun_eq, c3]) (by simp [fX6_hold, bnd, noUnit_eq hm' hu1 hu2, c1, c2, inHun_eq, c3])
  by_cases c4 : inb z4 3650 = true
  case neg => exact good (-2) (by simp [fX5_hold, isUnit_eq hl hu2, c1, c2, isHun_eq, c3, isDay_eq, c4]) (by simp [fX6_hold, bnd, noUnit_eq hm' hu1 hu2, c1, c2, inHun_eq, c3, noDay_eq, c4])
  by_cases c5 : z1 = z2
  · exact good (-3) (by simp [fX5_hold, isUnit_eq hl hu2, c1, c2, isHun_eq, c3, isDay_eq, c4, c5]) (by simp [fX6_hold, bnd, noUnit_eq hm' hu1 hu2, c1, c2, inHun_eq, c3, noDay_eq, c4, c5])
  obtain ⟨n, C, M, hC, hM, hE, hSp⟩ := h7
  obtain ⟨a, ha, rfl⟩ := inb_of c1 (by omega)
  obtain ⟨b, hb, rfl⟩ := inb_of c2 (by omega)
  obtain ⟨h, hh, rfl⟩ := inb_of c3 (by omega)
  obtain ⟨d, hd, rfl⟩ := inb_of c4 (by omega)
  have hab : a ≠ b := fun w => c5 (by rw [w])
  have he : EntOk u (a, b, h, d) := ⟨ha, hb, by show h ≤ 100; omega, hd, hab⟩
  have f0 : FrA (MS_thrown_s mst 0) mst := FrA_s_thrown (FrA_rf mst) 0
  obtain ⟨rk, hrk⟩ := hE.2.2.2.2.2.2.2
  have n1 : ¬ (1 : Int32) = 0 := by decide
  by_cases g : h = 0
  · have q : nI h ≤ 0 := by rw [g]; decide
    obtain ⟨r, A', T', w1, w2, w3⟩ := hold_write (A := lst) (T := MS_thrown_s mst 0) hu1 hu2 hl hm' (FrA_RowRel f0 hRow) (FrA_FacRel f0 hF) (FrA_SerRel f0 h8) hC (HoldM_fr hM f0) hE hSp he hrk (fun w => by omega)
    refine ⟨r, A', T', ?_, ?_, Rel_up w3⟩
    · simp only [fX5_hold, isUnit_eq hl hu2, c1, c2, isHun_eq, c3, isDay_eq, c4, c5, q, n1, w1, Option.bind_some, if_true, if_false]
    · simp only [fX6_hold, bnd, noUnit_eq hm' hu1 hu2, c1, c2, inHun_eq, c3, noDay_eq, c4, c5, q, n1, w2, Option.bind_some, if_true, if_false]
  · have q : ¬ nI h ≤ 0 := nI_nle (by omega) (by omega)
    obtain ⟨bC, bM⟩ := entB hE hu2
    obtain ⟨r, H', t1, t2, t3, t4, t5⟩ := mayTie_eq hC hE.1 (fun i hi => ⟨(bC i hi).1, (bC i hi).2.1, (bC i hi).2.2.2.1⟩) (by omega : a < 10) (by omega : b < 10)
    have hrM : ∀ i, i < n → 0 < (M i).2.2.1 → rk (M i).1 < rk (M i).2.1 := by
      intro i hi w
      obtain ⟨j, j1, j2⟩ := hE.2.2.2.1 i hi
      rw [← j2] at w ⊢
      exact hrk j j1 w
    obtain ⟨r', T, v1, v2, v3⟩ := mayHold_eq (HoldM_fr hM f0) hE.1 (fun i hi => ⟨(bM i hi).1, (bM i hi).2.1, (bM i hi).2.2.2.1⟩) hrM (by omega : a < 10) (by omega : b < 10)
    rw [EdN_CM hE] at v3
    have fT : FrA T mst := FrA_tr v2 f0
    have gA : FrL n C (LG_mk H' (LG_R lst) (LG_F lst) (LG_S lst) (LG_units lst)) lst := ⟨rfl, rfl, rfl, rfl, HoldC_fr hC t2, SpanOk_fr hSp t3 t4⟩
    rcases t5 with ⟨rfl, y1, y2⟩ | ⟨rfl, y1⟩
    · rcases v3 with ⟨rfl, -, -⟩ | ⟨-, x1⟩
      · obtain ⟨rk', rn, -⟩ := newRank (E0 := EdC n C) (E := EdN n C a b) (rk := rk) (by
          rintro a b ⟨i, h1, h2, h3, h4⟩
          rw [← h2, ← h3]; exact hrk i h1 h4) (by omega : a < 10) (by omega : b < 10) (fun a b e => e) (by
          rintro a' b' (⟨i, h1, h2, h3, h4⟩ | ⟨h1, h2⟩)
          · rw [← h2, ← h3]; exact ⟨(bC i h1).1, (bC i h1).2.1⟩
          · omega) y1
        obtain ⟨r, A', T', w1, w2, w3⟩ := hold_write (A := LG_mk H' (LG_R lst) (LG_F lst) (LG_S lst) (LG_units lst)) (T := T) hu1 hu2 hl ((FrA_units fT).trans hm) (FrA_RowRel fT hRow) (FrA_FacRel fT hF) (FrA_SerRel fT h8) gA.2.2.2.2.1 (HoldM_fr hM fT) hE gA.2.2.2.2.2 he (rk := rk') (fun i hi w => rn _ _ (Or.inl ⟨i, hi, rfl, rfl, w⟩)) (fun _ => rn _ _ (Or.inr ⟨rfl, rfl⟩))
        refine ⟨r, A', T', ?_, ?_, Rel_up w3⟩
        · simp only [fX5_hold, isUnit_eq hl hu2, c1, c2, isHun_eq, c3, isDay_eq, c4, c5, q, n1, t1, w1, Option.bind_some, if_true, if_false]
        · simp only [fX6_hold, bnd, noUnit_eq hm' hu1 hu2, c1, c2, inHun_eq, c3, noDay_eq, c4, c5, q, n1, v1, w2, Option.bind_some, if_true, if_false]
      · exact absurd ⟨y1, y2⟩ x1
    · rcases v3 with ⟨-, x1, x2⟩ | ⟨rfl, -⟩
      · exact absurd ⟨x1, x2⟩ y1
      · refine ⟨-3, LG_mk H' (LG_R lst) (LG_F lst) (LG_S lst) (LG_units lst), T, ?_, ?_, Rel_up (Rel_fr (Rel_frL hR0 hM hl hu2 hE gA) fT)⟩
        · simp only [fX5_hold, isUnit_eq hl hu2, c1, c2, isHun_eq, c3, isDay_eq, c4, c5, q, n1, t1, Option.bind_some, if_true, if_false]
        · simp only [fX6_hold, bnd, noUnit_eq hm' hu1 hu2, c1, c2, inHun_eq, c3, noDay_eq, c4, c5, q, n1, v1, Option.bind_some, if_true, if_false]
