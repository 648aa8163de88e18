/-! holds -/
theorem Rel_fr {k : Nat} {lst : LG} {T m : MS} (h : Rel k lst m) (g : FrA T m) : Rel k lst T := by
  obtain ⟨u, h1, h2, h3, h4, h5, h6, h7, h8⟩ := h
  exact ⟨u, h1, h2, h3, by rw [FrA_units g]; exact h4, FrA_RowRel g h5, FrA_FacRel g h6, FrA_HoldRel g h7, FrA_SerRel g h8⟩
theorem entB {u n : Nat} {C M : Nat → Ent} (h : EntRel u n C M) (hu : u ≤ 10) : (∀ i, i < n → (C i).1 < 10 ∧ (C i).2.1 < 10 ∧ (C i).2.2.2 < 3650 ∧ (C i).2.2.1 ≤ 100 ∧ (C i).1 ≠ (C i).2.1) ∧ (∀ i, i < n → (M i).1 < 10 ∧ (M i).2.1 < 10 ∧ (M i).2.2.2 < 3650 ∧ (M i).2.2.1 ≤ 100 ∧ (M i).1 ≠ (M i).2.1) := by
  have a : ∀ i, i < n → (C i).1 < 10 ∧ (C i).2.1 < 10 ∧ (C i).2.2.2 < 3650 ∧ (C i).2.2.1 ≤ 100 ∧ (C i).1 ≠ (C i).2.1 := by
    intro i hi
    obtain ⟨b1, b2, b3, b4, b5⟩ := h.2.1 i hi
    exact ⟨by omega, by omega, b4, b3, b5⟩
  refine ⟨a, fun j hj => ?_⟩
  obtain ⟨i, hi, e⟩ := h.2.2.2.1 j hj
  rw [← e]; exact a i hi
/-- both tables of a day are one -/
theorem day_ex {u n d : Nat} {C M : Nat → Ent} {H : HS} {m : MS} (hC : HoldC n C H) (hM : HoldM n M m) (hE : EntRel u n C M) (hu : u ≤ 10) (hd : d < 3650) : ∃ s T, s ≤ n ∧ fX1_spanOn H (nI d) = some (nI s) ∧ fX6_lay m (nI d) = some T ∧ FrA T m ∧ (∀ a b, a < 10 → b < 10 → MS_held T (10 * a + b) = nI (matN C s a b)) ∧ (∀ i, i < s → (C i).2.2.2 ≤ d) ∧ (∀ i, s ≤ i → i < n → d < (C i).2.2.2) := by
  obtain ⟨bC, bM⟩ := entB hE hu
  obtain ⟨hn, e1, e2, e3, e4, e5, e6, e7⟩ := hE
  obtain ⟨s, s1, s2, s3, s4⟩ := span_ex hC hn (fun i hi => (bC i hi).2.2.1) e6 hd
  obtain ⟨T, t1, t2, t3⟩ := lay_eq hM hn (fun i hi => ⟨(bM i hi).1, (bM i hi).2.1, (bM i hi).2.2.1⟩) hd
  refine ⟨s, T, s1, s4, t1, t2, fun a b ha hb => ?_, s2, s3⟩
  obtain ⟨v, v1, v2⟩ := t3 a b ha hb
  have := isVal_one e4 e3 e2 (matN_val e6 s1 s2 s3 a b) v2
  rw [v1, this]
theorem st_holds {k : Nat} {lst : LG} {mst : MS} (hR : Rel k lst mst) (hk : k < 512) (z1 z2 z3 : Int32) : ∃ (r : Int32) (mst2 : MS), fX5_holds lst z1 z2 z3 = some r ∧ fX6_holds mst z1 z2 z3 = some (r, mst2) ∧ Rel (k + 1) lst mst2 := by
  have hR0 := hR
  obtain ⟨u, hu1, hu2, hl, hm, hRow, hF, h7, h8⟩ := hR
  have hm' : MS_units (MS_thrown_s mst 0) = nI u := hm
  have good : ∀ v : Int32, fX5_holds lst z1 z2 z3 = some v → fX6_holds mst z1 z2 z3 = some (v, MS_thrown_s mst 0) → ∃ (r : Int32) (mst2 : MS), fX5_holds lst z1 z2 z3 = some r ∧ fX6_holds mst z1 z2 z3 = some (r, mst2) ∧ Rel (k + 1) lst mst2 := fun v h1 h2 => ⟨v, _, h1, h2, Rel_up (Rel_thr hR0)⟩
  by_cases c1 : inb z1 u = true
  case neg => exact good (-1) (by simp [fX5_holds, isUnit_eq hl hu2, c1]) (by simp [fX6_holds, bnd, noUnit_eq hm' hu1 hu2, c1])
  by_cases c2 : inb z2 u = true
  case neg => exact good (-1) (by simp [fX5_holds, isUnit_eq hl hu2, c1, c2]) (by simp [fX6_holds, bnd, noUnit_eq hm' hu1 hu2, c1, c2])
  by_cases c3 : inb z3 3650 = true
  case neg => exact good (-2) (by simp [fX5_holds, isUnit_eq hl hu2, c1, c2, isDay_eq, c3]) (by simp [fX6_holds, bnd, noUnit_eq hm' hu1 hu2, c1, c2, noDay_eq, c3])
  obtain ⟨n, C, M, hC, hM, hE, hSp⟩ := h7
  obtain ⟨a, ha, rfl⟩ := inb_of c1 (by omega)
  obtain ⟨b, hb, rfl⟩ := inb_of c2 (by omega)
  obtain ⟨d, hd, rfl⟩ := inb_of c3 (by omega)
  have hM' : HoldM n M (MS_thrown_s mst 0) := hM
  obtain ⟨s, T, s1, s2, s3, s4, s5, s6, s7⟩ := day_ex hC hM' hE hu2 hd
  have bC := (entB hE hu2).1
  have hh := heldOn_eq hC hE.1 (fun i hi => ⟨(bC i hi).1, (bC i hi).2.1⟩) (a := a) (b := b) (by omega) (by omega) s1 s2
  have ea : (10 : Int32) * nI a + nI b = nI (10 * a + b) := by rw [show (10 : Int32) = nI 10 from rfl, pk_mul, nI_add]
  have c4 : inb (nI (10 * a + b)) 100 = true := inb_nI (by omega) (by omega)
  have c5 : (nI (10 * a + b)).toNatClampNeg = 10 * a + b := nI_clamp (by omega)
  refine ⟨nI (matN C s a b), T, ?_, ?_, Rel_up (Rel_fr hR0 (FrA_tr s4 (FrA_s_thrown (FrA_rf mst) 0)))⟩
  · simp [fX5_holds, isUnit_eq hl hu2, c1, c2, isDay_eq, c3, hh]
  · simp only [fX6_holds, bnd, noUnit_eq hm' hu1 hu2, c1, c2, noDay_eq, c3, s3, Option.bind_some, ea, c4, c5, if_true, s5 a b (by omega) (by omega)]
