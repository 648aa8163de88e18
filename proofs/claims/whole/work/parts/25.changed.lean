/-! changed, change -/
theorem st_changed {k : Nat} {lst : LG} {mst : MS} (hR : Rel k lst mst) (hk : k < 512) (z1 z2 z3 : Int32) : ∃ (r : Int32) (mst2 : MS), fX5_changed lst z1 z2 z3 = some r ∧ fX6_changed mst z1 z2 z3 = some (r, mst2) ∧ Rel (k + 1) lst mst2 := by
  have hR0 := hR
  obtain ⟨u, hu1, hu2, hl, hm, hRow, hF, h7, h8⟩ := hR
  obtain ⟨r1, r2, r3, r4, r5, r6, r7, nr, hnr, hrs, hrok, hcov⟩ := hRow
  obtain ⟨e1, e2, e3, e4, e5, n, hn, hsz, hok⟩ := hF
  have hv : MS_versions (MS_thrown_s mst 0) = nI n := by rw [← hsz, e5]; rfl
  have hr : MS_rows (MS_thrown_s mst 0) = nI nr := by rw [← hrs, r7]; rfl
  have hr4 : RS_day (LG_R lst) = MS_day (MS_thrown_s mst 0) := r4
  have good : ∀ v : Int32, fX5_changed lst z1 z2 z3 = some v → fX6_changed mst z1 z2 z3 = some (v, MS_thrown_s mst 0) → ∃ (r : Int32) (mst2 : MS), fX5_changed lst z1 z2 z3 = some r ∧ fX6_changed mst z1 z2 z3 = some (r, mst2) ∧ Rel (k + 1) lst mst2 := fun v h1 h2 => ⟨v, _, h1, h2, Rel_up (Rel_thr hR0)⟩
  by_cases c1 : z2 = -9 ∨ inb z2 n = true
  case neg => exact good (-1) (by simp [fX5_changed, isAsOf_eq hsz hn, c1]) (by simp [fX6_changed, bnd, noAs_eq hv hn, c1])
  by_cases c2 : z3 = -9 ∨ inb z3 n = true
  case neg => exact good (-1) (by simp [fX5_changed, isAsOf_eq hsz hn, c1, c2]) (by simp [fX6_changed, bnd, noAs_eq hv hn, c1, c2])
  by_cases c3 : inb z1 10 = true
  case neg => exact good (-2) (by simp [fX5_changed, isAsOf_eq hsz hn, c1, c2, isYear_eq, c3]) (by simp [fX6_changed, bnd, noAs_eq hv hn, c1, c2, noYear_eq, c3])
  have stepA : ∀ (i : Nat) (x : Int32), i < nr → fX5_changed_l34 lst z1 z2 z3 x (nI i) = some (.inl (if RS_day (LG_R lst) i / 365 = z1 ∧ chS (LG_R lst) (LG_F lst) n i z2 z3 = true then x + 1 else x, nI (i + 1))) := by
    intro i x hi
    have q : ¬ nI nr ≤ nI i := by rw [nI_leI (by omega) (by omega)]; omega
    simp only [fX5_changed_l34, fX5_changed_b61, hrs, q, if_false, isChanged_eq hsz hn (show i < 200 by omega) z1 z2 z3 c1 c2, Option.bind_some, nI_1]
    by_cases g : RS_day (LG_R lst) i / 365 = z1 ∧ chS (LG_R lst) (LG_F lst) n i z2 z3 = true
    · simp [g]
    · simp [g]
  have stepB : ∀ (i : Nat) (x : Int32), i < nr → fX6_changed_l39 (MS_thrown_s mst 0) z1 z2 z3 x (nI i) = some (.inl (if RS_day (LG_R lst) i / 365 = z1 ∧ chS (LG_R lst) (LG_F lst) n i z2 z3 = true then x + 1 else x, nI (i + 1))) := by
    intro i x hi
    have q : ¬ nI nr ≤ nI i := by rw [nI_leI (by omega) (by omega)]; omega
    have q2 : inb (nI i) 200 = true := inb_nI (by omega) (by omega)
    have cl : (nI i).toNatClampNeg = i := nI_clamp (by omega)
    obtain ⟨-, -, -, a, c, ha1, ha2, -, hA, -⟩ := hrok i hi
    have ot := isOther_eq (R := LG_R lst) (F := LG_F lst) (m := MS_thrown_s mst 0) e1 e2 e3 e4 r2 r3 r4 r6 hn hv (show i < 200 by omega) hok ha1 ha2 hA z2 z3 c1 c2
    simp only [fX6_changed_l39, fX6_changed_b80, fX6_changed_b81, hr, q, q2, cl, if_false, if_true, ot, Option.bind_some, nI_1, ← hr4]
    by_cases g1 : RS_day (LG_R lst) i / 365 = z1
    · by_cases g2 : chS (LG_R lst) (LG_F lst) n i z2 z3 = true
      · simp [g1, g2]
      · simp [g1, g2]
    · simp [g1]
  have lastA : ∀ x : Int32, fX5_changed_l34 lst z1 z2 z3 x (nI nr) = some (.inr (x, nI nr)) := by
    intro x
    have q : nI nr ≤ nI nr := Int32.le_refl _
    simp only [fX5_changed_l34, hrs, q, if_true]
  have lastB : ∀ x : Int32, fX6_changed_l39 (MS_thrown_s mst 0) z1 z2 z3 x (nI nr) = some (.inr (x, nI nr)) := by
    intro x
    have q : nI nr ≤ nI nr := Int32.le_refl _
    simp only [fX6_changed_l39, hr, q, if_true]
  have totA : ∃ y, loopN (fun (s : Int32 × Int32) => fX5_changed_l34 lst z1 z2 z3 s.1 s.2) fuelN ((0 : Int32), (0 : Int32)) = some y ∧ True := by
    refine loop_f (fun i s => s.2 = nI i) _ nr (by omega) rfl ?_ ?_
    · rintro i ⟨x, y⟩ hi h
      simp only at h
      subst h
      exact Or.inl ⟨_, stepA i x hi, rfl⟩
    · rintro ⟨x, y⟩ h
      simp only at h
      subst h
      exact ⟨_, lastA x, trivial⟩
  obtain ⟨y, hy, -⟩ := totA
  have sim := loop_sim (A := fun (s : Int32 × Int32) => fX5_changed_l34 lst z1 z2 z3 s.1 s.2) (B := fun (s : Int32 × Int32) => fX6_changed_l39 (MS_thrown_s mst 0) z1 z2 z3 s.1 s.2) (fun s => ∃ i, i ≤ nr ∧ s.2 = nI i) id (by
    rintro ⟨x, y⟩ ⟨i, hi, h⟩
    simp only at h
    subst h
    by_cases hn : i = nr
    · subst hn
      exact Or.inr ⟨_, lastA x, lastB x⟩
    · exact Or.inl ⟨_, stepA i x (by omega), stepB i x (by omega), i + 1, by omega, rfl⟩) fuelN ((0 : Int32), (0 : Int32)) ⟨0, Nat.zero_le _, rfl⟩
  rw [hy] at sim
  refine good y.1 ?_ ?_
  · simp only [fX5_changed, isAsOf_eq hsz hn, c1, c2, isYear_eq, c3, hy, Option.bind_some, if_true]
    simp
  · simp only [fX6_changed, bnd, noAs_eq hv hn, c1, c2, noYear_eq, c3, sim, Option.bind_some, Option.map_some, if_true, id]
theorem st_change {k : Nat} {lst : LG} {mst : MS} (hR : Rel k lst mst) (hk : k < 512) (z1 z2 z3 z4 : Int32) : ∃ (r : Int32) (mst2 : MS), fX5_change lst z1 z2 z3 z4 = some r ∧ fX6_change mst z1 z2 z3 z4 = some (r, mst2) ∧ Rel (k + 1) lst mst2 := by
  have hR0 := hR
  obtain ⟨u, hu1, hu2, hl, hm, hRow, hF, h7, h8⟩ := hR
  obtain ⟨r1, r2, r3, r4, r5, r6, r7, nr, hnr, hrs, hrok, hcov⟩ := hRow
  obtain ⟨e1, e2, e3, e4, e5, n, hn, hsz, hok⟩ := hF
  have hv : MS_versions (MS_thrown_s mst 0) = nI n := by rw [← hsz, e5]; rfl
  have hr : MS_rows (MS_thrown_s mst 0) = nI nr := by rw [← hrs, r7]; rfl
  have hr4 : RS_day (LG_R lst) = MS_day (MS_thrown_s mst 0) := r4
  have good : ∀ v : Int32, fX5_change lst z1 z2 z3 z4 = some v → fX6_change mst z1 z2 z3 z4 = some (v, MS_thrown_s mst 0) → ∃ (r : Int32) (mst2 : MS), fX5_change lst z1 z2 z3 z4 = some r ∧ fX6_change mst z1 z2 z3 z4 = some (r, mst2) ∧ Rel (k + 1) lst mst2 := fun v h1 h2 => ⟨v, _, h1, h2, Rel_up (Rel_thr hR0)⟩
  by_cases c1 : z3 = -9 ∨ inb z3 n = true
  case neg => exact good (-1) (by simp [fX5_change, isAsOf_eq hsz hn, c1]) (by simp [fX6_change, bnd, noAs_eq hv hn, c1])
  by_cases c2 : z4 = -9 ∨ inb z4 n = true
  case neg => exact good (-1) (by simp [fX5_change, isAsOf_eq hsz hn, c1, c2]) (by simp [fX6_change, bnd, noAs_eq hv hn, c1, c2])
  by_cases c3 : inb z2 10 = true
  case neg => exact good (-2) (by simp [fX5_change, isAsOf_eq hsz hn, c1, c2, isYear_eq, c3]) (by simp [fX6_change, bnd, noAs_eq hv hn, c1, c2, noYear_eq, c3])
  have stepA : ∀ (i : Nat) (x : Int32), i < nr → fX5_change_l35 lst z1 z2 z3 z4 x (nI i) = some (if RS_day (LG_R lst) i / 365 = z2 ∧ chS (LG_R lst) (LG_F lst) n i z3 z4 = true then (if x = z1 then .inr (.inr (nI i)) else .inl (x + 1, nI (i + 1))) else .inl (x, nI (i + 1))) := by
    intro i x hi
    have q : ¬ nI nr ≤ nI i := by rw [nI_leI (by omega) (by omega)]; omega
    simp only [fX5_change_l35, fX5_change_b72, hrs, q, if_false, isChanged_eq hsz hn (show i < 200 by omega) z2 z3 z4 c1 c2, Option.bind_some, nI_1]
    by_cases g : RS_day (LG_R lst) i / 365 = z2 ∧ chS (LG_R lst) (LG_F lst) n i z3 z4 = true
    · by_cases g3 : x = z1 <;> simp [g, g3]
    · simp [g]
  have stepB : ∀ (i : Nat) (x : Int32), i < nr → fX6_change_l40 (MS_thrown_s mst 0) z1 z2 z3 z4 x (nI i) = some (if RS_day (LG_R lst) i / 365 = z2 ∧ chS (LG_R lst) (LG_F lst) n i z3 z4 = true then (if x = z1 then .inr (.inr (nI i, MS_thrown_s mst 0)) else .inl (x + 1, nI (i + 1))) else .inl (x, nI (i + 1))) := by
    intro i x hi
    have q : ¬ nI nr ≤ nI i := by rw [nI_leI (by omega) (by omega)]; omega
    have q2 : inb (nI i) 200 = true := inb_nI (by omega) (by omega)
    have cl : (nI i).toNatClampNeg = i := nI_clamp (by omega)
    obtain ⟨-, -, -, a, c, ha1, ha2, -, hA, -⟩ := hrok i hi
    have ot := isOther_eq (R := LG_R lst) (F := LG_F lst) (m := MS_thrown_s mst 0) e1 e2 e3 e4 r2 r3 r4 r6 hn hv (show i < 200 by omega) hok ha1 ha2 hA z3 z4 c1 c2
    simp only [fX6_change_l40, fX6_change_b88, hr, q, q2, cl, if_false, if_true, ot, Option.bind_some, nI_1, ← hr4]
    by_cases g1 : RS_day (LG_R lst) i / 365 = z2
    · by_cases g2 : chS (LG_R lst) (LG_F lst) n i z3 z4 = true
      · by_cases g3 : x = z1 <;> simp [g1, g2, g3]
      · simp [g1, g2]
    · simp [g1]
  have lastA : ∀ x : Int32, fX5_change_l35 lst z1 z2 z3 z4 x (nI nr) = some (.inr (.inl (x, nI nr))) := by
    intro x
    have q : nI nr ≤ nI nr := Int32.le_refl _
    simp only [fX5_change_l35, hrs, q, if_true]
  have lastB : ∀ x : Int32, fX6_change_l40 (MS_thrown_s mst 0) z1 z2 z3 z4 x (nI nr) = some (.inr (.inl (x, nI nr))) := by
    intro x
    have q : nI nr ≤ nI nr := Int32.le_refl _
    simp only [fX6_change_l40, hr, q, if_true]
  have totA : ∃ y, loopN (fun (s : Int32 × Int32) => fX5_change_l35 lst z1 z2 z3 z4 s.1 s.2) fuelN ((0 : Int32), (0 : Int32)) = some y ∧ True := by
    refine loop_f (fun i s => s.2 = nI i) _ nr (by omega) rfl ?_ ?_
    · rintro i ⟨x, y⟩ hi h
      simp only at h
      subst h
      rw [stepA i x hi]
      by_cases g : RS_day (LG_R lst) i / 365 = z2 ∧ chS (LG_R lst) (LG_F lst) n i z3 z4 = true
      · rw [if_pos g]
        by_cases g3 : x = z1
        · rw [if_pos g3]; exact Or.inr ⟨_, rfl, trivial⟩
        · rw [if_neg g3]; exact Or.inl ⟨_, rfl, rfl⟩
      · rw [if_neg g]; exact Or.inl ⟨_, rfl, rfl⟩
    · rintro ⟨x, y⟩ h
      simp only at h
      subst h
      exact ⟨_, lastA x, trivial⟩
  obtain ⟨y, hy, -⟩ := totA
  have sim := loop_sim (A := fun (s : Int32 × Int32) => fX5_change_l35 lst z1 z2 z3 z4 s.1 s.2) (B := fun (s : Int32 × Int32) => fX6_change_l40 (MS_thrown_s mst 0) z1 z2 z3 z4 s.1 s.2) (fun s => ∃ i, i ≤ nr ∧ s.2 = nI i) (Sum.map id (fun v => (v, MS_thrown_s mst 0))) (by
    rintro ⟨x, y⟩ ⟨i, hi, h⟩
    simp only at h
    subst h
    by_cases hn : i = nr
    · subst hn
      exact Or.inr ⟨_, lastA x, lastB x⟩
    · have a := stepA i x (by omega)
      have b := stepB i x (by omega)
      by_cases g : RS_day (LG_R lst) i / 365 = z2 ∧ chS (LG_R lst) (LG_F lst) n i z3 z4 = true
      · rw [if_pos g] at a b
        by_cases g3 : x = z1
        · rw [if_pos g3] at a b; exact Or.inr ⟨_, a, b⟩
        · rw [if_neg g3] at a b; exact Or.inl ⟨_, a, b, i + 1, by omega, rfl⟩
      · rw [if_neg g] at a b; exact Or.inl ⟨_, a, b, i + 1, by omega, rfl⟩) fuelN ((0 : Int32), (0 : Int32)) ⟨0, Nat.zero_le _, rfl⟩
  rw [hy] at sim
  have A1 : fX5_change lst z1 z2 z3 z4 = Sum.elim (fun e_ => some (-9 : Int32)) (fun v_ => some v_) y := by
    simp only [fX5_change, isAsOf_eq hsz hn, c1, c2, isYear_eq, c3, hy, Option.bind_some, if_true]
    simp
  have B1 : fX6_change mst z1 z2 z3 z4 = Sum.elim (fun e_ => some ((-9 : Int32), MS_thrown_s mst 0)) (fun v_ => some v_) (Sum.map id (fun v => (v, MS_thrown_s mst 0)) y) := by
    simp only [fX6_change, bnd, noAs_eq hv hn, c1, c2, noYear_eq, c3, sim, Option.bind_some, Option.map_some, if_true]
  cases y with
  | inl e => exact good (-9) A1 B1
  | inr v => exact good v A1 B1
