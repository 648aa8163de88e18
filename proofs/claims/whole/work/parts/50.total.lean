/-! total, anew, part -/
theorem b82_eq {u n d s i a nf : Nat} {C M : Nat → Ent} {lst : LG} {m T : MS} (hE : EntRel u n C M) (hu : u ≤ 10) (hC : HoldC n C (LG_H lst)) (hM : HoldM n M m) (r1 : RS_unit (LG_R lst) = MS_unitOf m) (r2 : RS_kind (LG_R lst) = MS_kind m) (r3 : RS_amount (LG_R lst) = MS_amount m) (r4 : RS_day (LG_R lst) = MS_day m) (r6 : RS_covered (LG_R lst) = MS_covered m) (e1 : FS_kind (LG_F lst) = MS_ofKind m) (e2 : FS_year (LG_F lst) = MS_ofYear m) (e3 : FS_low (LG_F lst) = MS_low m) (e4 : FS_high (LG_F lst) = MS_high m) (hnf : nf ≤ 80) (hv : MS_versions m = nI nf) (hi : i < 200) (ha : a < 10) (ea : RS_unit (LG_R lst) i = nI a) (hd : d < 3650) (hs : IsSp n C d s) (f : FrA T m) (x1 y x3 wa wm wo wh : Int32) (x : Int64) (hwa : wa = -9 ∨ inb wa nf = true) : ∃ T1, FrA T1 m ∧ fX6_totalOf_b82 T x1 y x3 wa wm wo wh x (nI i) (nI d) = (if shrN (matN C s) a = 0 then some (.inl (T1, x, nI (i + 1))) else if tonS (LG_R lst) (LG_F lst) nf i wa wm wh = -9 then some (.inr (.inr (-9, T1))) else some (.inl (T1, x + tonS (LG_R lst) (LG_F lst) nf i wa wm wh * lN (shrN (matN C s) a), nI (i + 1)))) := by
  have ct : inb (nI i) 200 = true := inb_nI hi (by omega)
  have cl : (nI i).toNatClampNeg = i := nI_clamp (by omega)
  obtain ⟨T1, y1, y2, y3⟩ := shB hC hM hE hu hd hs f
  have ca : inb (nI a) 10 = true := inb_nI (by omega) (by omega)
  have da : (nI a).toNatClampNeg = a := nI_clamp (by omega)
  have va := y3 a (by omega)
  have ton := tonM (R := LG_R lst) (F := LG_F lst) (m := T1) (e1.trans (FrA_ofKind y2).symm) (e2.trans (FrA_ofYear y2).symm) (e3.trans (FrA_low y2).symm) (e4.trans (FrA_high y2).symm) (r2.trans (FrA_kind y2).symm) (r3.trans (FrA_amount y2).symm) (r4.trans (FrA_day y2).symm) (r6.trans (FrA_covered y2).symm) hnf ((FrA_versions y2).trans hv) hi wa wm wh hwa
  refine ⟨T1, y2, ?_⟩
  generalize tonS (LG_R lst) (LG_F lst) nf i wa wm wh = t at ton ⊢
  by_cases p : shrN (matN C s) a = 0
  · have z := (cmp_le0 (shr_b hE hu hs.1 a)).mpr p
    rw [if_pos p]
    simp only [fX6_totalOf_b82, fX6_totalOf_b132, fX6_totalOf_b170, fX6_totalOf_b173, y1, Option.bind_some, ton, ct, cl, FrA_unitOf y2, ← r1, ea, ca, da, va, z, if_true, Int64.add_zero, nI_1]
  · have z : ¬ lg_cmp (lN (shrN (matN C s) a)) (0 : Int64) ≤ 0 := fun w => p ((cmp_le0 (shr_b hE hu hs.1 a)).mp w)
    by_cases q : t = -9
    · have q' : lg_cmp t (-9) = 0 := (cmp_eq t (-9)).mpr q
      simp only [fX6_totalOf_b82, y1, Option.bind_some, ton, ct, cl, FrA_unitOf y2, ← r1, ea, ca, da, va, z, p, q', if_true, if_false]
      rw [if_pos q]
    · have q' : ¬ lg_cmp t (-9) = 0 := fun w => q ((cmp_eq t (-9)).mp w)
      simp only [fX6_totalOf_b82, fX6_totalOf_b132, fX6_totalOf_b170, fX6_totalOf_b173, y1, Option.bind_some, ton, ct, cl, FrA_unitOf y2, ← r1, ea, ca, da, va, z, p, q, q', if_true, if_false, nI_1]
theorem b126_eq {n i nf : Nat} {C : Nat → Ent} {lst A : LG} (hsz : FS_size (LG_F lst) = nI nf) (hnf : nf ≤ 80) (hi : i < 200) (g : FrL n C A lst) (x1 y x3 wa wm wo wh : Int32) (x v : Int64) (hwa : wa = -9 ∨ inb wa nf = true) : fX5_totalOf_b126 wa wm wo wh A x1 y x3 x (nI i) v = (if tonS (LG_R lst) (LG_F lst) nf i wa wm wh = -9 then some (.inr (.inr (-9, A))) else some (.inl (A, x + tonS (LG_R lst) (LG_F lst) nf i wa wm wh * v, nI (i + 1)))) := by
  have ton := tonC (st := A) (n := nf) (by rw [g.2.2.1]; exact hsz) hnf hi wa wm wo wh hwa
  rw [g.2.1, g.2.2.1] at ton
  generalize tonS (LG_R lst) (LG_F lst) nf i wa wm wh = t at ton ⊢
  by_cases q : t = -9
  · have q' : lg_cmp t (-9) = 0 := (cmp_eq t (-9)).mpr q
    simp only [fX5_totalOf_b126, ton, Option.bind_some, q', if_true]
    rw [if_pos q]
  · have q' : ¬ lg_cmp t (-9) = 0 := fun w => q ((cmp_eq t (-9)).mp w)
    simp only [fX5_totalOf_b126, fX5_totalOf_b159, ton, Option.bind_some, q, q', if_false, nI_1]
theorem rowT {u n d s i nf : Nat} {C M : Nat → Ent} {lst A : LG} {m T : MS} (hE : EntRel u n C M) (hu : u ≤ 10) (hC : HoldC n C (LG_H lst)) (hM : HoldM n M m) (r1 : RS_unit (LG_R lst) = MS_unitOf m) (r2 : RS_kind (LG_R lst) = MS_kind m) (r3 : RS_amount (LG_R lst) = MS_amount m) (r4 : RS_day (LG_R lst) = MS_day m) (r5 : RS_seller (LG_R lst) = MS_seller m) (r6 : RS_covered (LG_R lst) = MS_covered m) (e1 : FS_kind (LG_F lst) = MS_ofKind m) (e2 : FS_year (LG_F lst) = MS_ofYear m) (e3 : FS_low (LG_F lst) = MS_low m) (e4 : FS_high (LG_F lst) = MS_high m) (hsz : FS_size (LG_F lst) = nI nf) (hnf : nf ≤ 80) (hv : MS_versions m = nI nf) (hi : i < 200) (hok : RowOk u (LG_R lst) i) (hd : d < 3650) (hs : IsSp n C d s) (g : FrL n C A lst) (f : FrA T m) (x1 y x3 wa wm wo wh : Int32) (x : Int64) (hwa : wa = -9 ∨ inb wa nf = true) : (∃ A' T' x', fX5_totalOf_b74 wa wm wo wh A x1 y x3 x (nI i) (nI d) = some (.inl (A', x', nI (i + 1))) ∧ fX6_totalOf_b66 T x1 y x3 wa wm wo wh x (nI i) (nI d) = some (.inl (T', x', nI (i + 1))) ∧ FrL n C A' lst ∧ FrA T' m) ∨ (∃ A' T', fX5_totalOf_b74 wa wm wo wh A x1 y x3 x (nI i) (nI d) = some (.inr (.inr (-9, A'))) ∧ fX6_totalOf_b66 T x1 y x3 wa wm wo wh x (nI i) (nI d) = some (.inr (.inr (-9, T'))) ∧ FrL n C A' lst ∧ FrA T' m) := by
  obtain ⟨a, ha, ea⟩ := hok.1
  have gA : LG_R A = LG_R lst := g.2.1
  have ct : inb (nI i) 200 = true := inb_nI hi (by omega)
  have cl : (nI i).toNatClampNeg = i := nI_clamp (by omega)
  obtain ⟨H1, z1, z2⟩ := shA hE hu hd hs g (v := a) (by omega)
  rw [gA] at z2
  have fin : ∀ (A' : LG) (T' : MS), FrL n C A' lst → FrA T' m → fX5_totalOf_b74 wa wm wo wh A x1 y x3 x (nI i) (nI d) = (if shrN (matN C s) a = 0 then some (.inl (A', x, nI (i + 1))) else fX5_totalOf_b126 wa wm wo wh A' x1 y x3 x (nI i) (lN (shrN (matN C s) a))) → fX6_totalOf_b66 T x1 y x3 wa wm wo wh x (nI i) (nI d) = fX6_totalOf_b82 T' x1 y x3 wa wm wo wh x (nI i) (nI d) → (∃ A' T' x', fX5_totalOf_b74 wa wm wo wh A x1 y x3 x (nI i) (nI d) = some (.inl (A', x', nI (i + 1))) ∧ fX6_totalOf_b66 T x1 y x3 wa wm wo wh x (nI i) (nI d) = some (.inl (T', x', nI (i + 1))) ∧ FrL n C A' lst ∧ FrA T' m) ∨ (∃ A' T', fX5_totalOf_b74 wa wm wo wh A x1 y x3 x (nI i) (nI d) = some (.inr (.inr (-9, A'))) ∧ fX6_totalOf_b66 T x1 y x3 wa wm wo wh x (nI i) (nI d) = some (.inr (.inr (-9, T'))) ∧ FrL n C A' lst ∧ FrA T' m) := by
    intro A' T' g' f' h1 h2
    obtain ⟨T1, w1, w2⟩ := b82_eq hE hu hC hM r1 r2 r3 r4 r6 e1 e2 e3 e4 hnf hv hi (by omega : a < 10) ea hd hs f' x1 y x3 wa wm wo wh x hwa
    have w3 := b126_eq hsz hnf hi g' x1 y x3 wa wm wo wh x (lN (shrN (matN C s) a)) hwa
    rw [w2] at h2
    rw [w3] at h1
    by_cases p : shrN (matN C s) a = 0
    · rw [if_pos p] at h1 h2
      exact Or.inl ⟨A', T1, x, h1, h2, g', w1⟩
    · rw [if_neg p] at h1 h2
      by_cases q : tonS (LG_R lst) (LG_F lst) nf i wa wm wh = -9
      · rw [if_pos q] at h1 h2
        exact Or.inr ⟨A', T1, h1, h2, g', w1⟩
      · rw [if_neg q] at h1 h2
        exact Or.inl ⟨A', T1, _, h1, h2, g', w1⟩
  by_cases o : wo = 0
  · refine fin _ T z2 f ?_ (by simp only [fX6_totalOf_b66, o, if_true])
    by_cases p : shrN (matN C s) a = 0
    · have z := (cmp_eq0 (shr_b hE hu hs.1 a)).mpr p
      rw [if_pos p]
      simp only [fX5_totalOf_b74, fX5_totalOf_b159, ct, cl, gA, ea, z1, Option.bind_some, z, if_true, nI_1]
    · have z : ¬ lg_cmp (lN (shrN (matN C s) a)) (0 : Int64) = 0 := fun w => p ((cmp_eq0 (shr_b hE hu hs.1 a)).mp w)
      rw [if_neg p]
      simp only [fX5_totalOf_b74, ct, cl, gA, ea, z1, Option.bind_some, z, o, if_true, if_false]
  · obtain ⟨r, A', T', b1, b2, b3, b4, b5, b6⟩ := dbl_eq hE hu hC hM r1 r5 hi hok hd hs z2 f
    by_cases p : shrN (matN C s) a = 0
    · have r0 : r = 0 := b6 a (by omega) ea p
      subst r0
      have z := (cmp_eq0 (shr_b hE hu hs.1 a)).mpr p
      refine fin _ T' z2 b5 ?_ (by simp only [fX6_totalOf_b66, o, b3, Option.bind_some, if_true, if_false])
      rw [if_pos p]
      simp only [fX5_totalOf_b74, fX5_totalOf_b159, ct, cl, gA, ea, z1, Option.bind_some, z, if_true, nI_1]
    · have z : ¬ lg_cmp (lN (shrN (matN C s) a)) (0 : Int64) = 0 := fun w => p ((cmp_eq0 (shr_b hE hu hs.1 a)).mp w)
      rcases b1 with rfl | rfl
      · refine fin A' T' b4 b5 ?_ (by simp only [fX6_totalOf_b66, o, b3, Option.bind_some, if_true, if_false])
        rw [if_neg p]
        simp only [fX5_totalOf_b74, ct, cl, gA, ea, z1, Option.bind_some, z, o, b2, if_true, if_false]
      · have o1 : ¬ (1 : Int32) = 0 := by decide
        refine Or.inl ⟨A', T', x, ?_, ?_, b4, b5⟩
        · simp only [fX5_totalOf_b74, fX5_totalOf_b159, ct, cl, gA, ea, z1, Option.bind_some, z, o, o1, b2, if_true, if_false, nI_1]
        · simp only [fX6_totalOf_b66, fX6_totalOf_b173, o, o1, b3, Option.bind_some, if_false, nI_1]
theorem tot_eq {u n nr nf : Nat} {C M : Nat → Ent} {lst A0 : LG} {m T0 : MS} (hE : EntRel u n C M) (hu : u ≤ 10) (hC : HoldC n C (LG_H lst)) (hM : HoldM n M m) (hRow : RowRel u (LG_R lst) m) (hF : FacRel (LG_F lst) m) (hrs : RS_size (LG_R lst) = nI nr) (hnr : nr ≤ 200) (hsz : FS_size (LG_F lst) = nI nf) (hnf : nf ≤ 80) (g0 : FrL n C A0 lst) (f0 : FrA T0 m) (x1 y x3 wa wm wo wh : Int32) (hwa : wa = -9 ∨ inb wa nf = true) (hx3 : x3 = -9 ∨ inb x3 3650 = true) : ∃ (r : Int64) (A' : LG) (T' : MS), fX5_totalOf wa wm wo wh A0 x1 y x3 = some (r, A') ∧ fX6_totalOf T0 x1 y x3 wa wm wo wh = some (r, T') ∧ FrL n C A' lst ∧ FrA T' m := by
  obtain ⟨r1, r2, r3, r4, r5, r6, r7, nr', hnr', hrs', hrok, hcov⟩ := hRow
  have : nr' = nr := by rw [hrs', nI_eq (by omega) (by omega)] at hrs; exact hrs
  subst this
  obtain ⟨e1, e2, e3, e4, e5, nf', hnf', hsz', hok⟩ := hF
  have hv : MS_versions m = nI nf := by rw [← hsz, e5]
  have hr : MS_rows m = nI nr' := by rw [← hrs, r7]
  have key : ∃ r r', loopN (fun (s : LG × Int64 × Int32) => fX5_totalOf_l6 wa wm wo wh x1 y x3 s.1 s.2.1 s.2.2) fuelN (A0, (0 : Int64), (0 : Int32)) = some r ∧ loopN (fun (s : MS × Int64 × Int32) => fX6_totalOf_l6 x1 y x3 wa wm wo wh s.1 s.2.1 s.2.2) fuelN (T0, (0 : Int64), (0 : Int32)) = some r' ∧ ∃ (v : Int64) (A' : LG) (T' : MS), Sum.elim (fun (e_ : LG × Int64 × Int32) => some (e_.2.1, e_.1)) (fun v_ => some v_) r = some (v, A') ∧ Sum.elim (fun (e_ : MS × Int64 × Int32) => some (e_.2.1, e_.1)) (fun v_ => some v_) r' = some (v, T') ∧ FrL n C A' lst ∧ FrA T' m := by
    refine loop_g (fun (i : Nat) (s : LG × Int64 × Int32) (t : MS × Int64 × Int32) => FrL n C s.1 lst ∧ FrA t.1 m ∧ s.2.1 = t.2.1 ∧ s.2.2 = nI i ∧ t.2.2 = nI i) _ nr' (by omega) ⟨g0, f0, rfl, rfl, rfl⟩ ?_ ?_
    · rintro i ⟨A, x, p⟩ ⟨T, x', q⟩ hi ⟨a1, a2, a3, a4, a5⟩
      simp only at a1 a2 a3 a4 a5
      subst a3; subst a4; subst a5
      have gR : LG_R A = LG_R lst := a1.2.1
      have c2 : ¬ nI nr' ≤ nI i := by rw [nI_leI (by omega) (by omega)]; omega
      have ct : inb (nI i) 200 = true := inb_nI (by omega) (by omega)
      have cl : (nI i).toNatClampNeg = i := nI_clamp (by omega)
      have oy := isOfYear_eq (LG_R lst) (by omega : i < 200) y
      have skip : fX5_totalOf_l6 wa wm wo wh x1 y x3 A x (nI i) = some (.inl (A, x, nI (i + 1))) → fX6_totalOf_l6 x1 y x3 wa wm wo wh T x (nI i) = some (.inl (T, x, nI (i + 1))) → (∃ (s' : LG × Int64 × Int32) (t' : MS × Int64 × Int32), fX5_totalOf_l6 wa wm wo wh x1 y x3 A x (nI i) = some (.inl s') ∧ fX6_totalOf_l6 x1 y x3 wa wm wo wh T x (nI i) = some (.inl t') ∧ FrL n C s'.1 lst ∧ FrA t'.1 m ∧ s'.2.1 = t'.2.1 ∧ s'.2.2 = nI (i + 1) ∧ t'.2.2 = nI (i + 1)) := fun h1 h2 => ⟨_, _, h1, h2, a1, a2, rfl, rfl, rfl⟩
      by_cases gy : RS_day (LG_R lst) i / 365 = y
      · rw [if_pos gy] at oy
        by_cases gu : ¬ x1 = -9 ∧ ¬ RS_unit (LG_R lst) i = x1
        · left
          refine skip ?_ ?_
          · simp [fX5_totalOf_l6, fX5_totalOf_b159, gR, hrs, c2, oy, gu.1, gu.2, ct, cl, nI_1]
          · by_cases w : x3 = -9
            · simp [fX6_totalOf_l6, fX6_totalOf_b32, fX6_totalOf_b173, FrA_rows a2, FrA_day a2, FrA_unitOf a2, hr, ← r4, ← r1, c2, w, ct, cl, gy, gu.1, gu.2, nI_1]
            · simp [fX6_totalOf_l6, fX6_totalOf_b32, fX6_totalOf_b173, FrA_rows a2, FrA_day a2, FrA_unitOf a2, hr, ← r4, ← r1, c2, w, ct, cl, gy, gu.1, gu.2, nI_1]
        · obtain ⟨d, hd, ed⟩ : ∃ d, d < 3650 ∧ (if x3 = -9 then RS_day (LG_R lst) i else x3) = nI d := by
            by_cases w : x3 = -9
            · rw [if_pos w]; exact (hrok i hi).2.1
            · rw [if_neg w]; exact inb_of (hx3.resolve_left w) (by omega)
          have eA : fX5_totalOf_l6 wa wm wo wh x1 y x3 A x (nI i) = fX5_totalOf_b74 wa wm wo wh A x1 y x3 x (nI i) (nI d) := by
            have e54 : fX5_totalOf_b54 wa wm wo wh A x1 y x3 x (nI i) = fX5_totalOf_b74 wa wm wo wh A x1 y x3 x (nI i) (nI d) := by
              rw [← ed]
              by_cases w : x3 = -9
              · simp only [fX5_totalOf_b54, w, ct, cl, gR, if_true]
              · simp only [fX5_totalOf_b54, w, if_false]
            by_cases w1 : x1 = -9
            · simp only [fX5_totalOf_l6, gR, hrs, c2, oy, Option.bind_some, w1, if_false, if_true, if_neg (show ¬ (1 : Int32) = 0 by decide)]
              rw [w1] at e54; exact e54
            · have w2 : RS_unit (LG_R lst) i = x1 := Classical.byContradiction (fun w => gu ⟨w1, w⟩)
              simp only [fX5_totalOf_l6, gR, hrs, c2, oy, Option.bind_some, w1, w2, ct, cl, if_false, if_true, if_neg (show ¬ (1 : Int32) = 0 by decide)]
              exact e54
          have eB : fX6_totalOf_l6 x1 y x3 wa wm wo wh T x (nI i) = fX6_totalOf_b66 T x1 y x3 wa wm wo wh x (nI i) (nI d) := by
            have e32 : fX6_totalOf_l6 x1 y x3 wa wm wo wh T x (nI i) = fX6_totalOf_b32 T x1 y x3 wa wm wo wh x (nI i) (nI d) := by
              rw [← ed]
              by_cases w : x3 = -9
              · simp only [fX6_totalOf_l6, FrA_rows a2, FrA_day a2, hr, ← r4, c2, w, ct, cl, if_true, if_false]
              · simp only [fX6_totalOf_l6, FrA_rows a2, hr, c2, w, if_false]
            rw [e32]
            by_cases w1 : x1 = -9
            · simp only [fX6_totalOf_b32, FrA_day a2, ← r4, ct, cl, gy, w1, if_true]
            · have w2 : RS_unit (LG_R lst) i = x1 := Classical.byContradiction (fun w => gu ⟨w1, w⟩)
              simp only [fX6_totalOf_b32, FrA_day a2, FrA_unitOf a2, ← r4, ← r1, ct, cl, gy, w1, w2, if_true, if_false]
          obtain ⟨s, hs, -⟩ := IsSp_ex hC hE hu hd
          rcases rowT hE hu hC hM r1 r2 r3 r4 r5 r6 e1 e2 e3 e4 hsz hnf hv (by omega : i < 200) (hrok i hi) hd hs a1 a2 x1 y x3 wa wm wo wh x hwa with ⟨A', T', v, b1, b2, b3, b4⟩ | ⟨A', T', b1, b2, b3, b4⟩
          · left
            exact ⟨(A', v, nI (i + 1)), (T', v, nI (i + 1)), eA.trans b1, eB.trans b2, b3, b4, rfl, rfl, rfl⟩
          · right
            exact ⟨.inr (-9, A'), .inr (-9, T'), eA.trans b1, eB.trans b2, -9, A', T', rfl, rfl, b3, b4⟩
      · rw [if_neg gy] at oy
        left
        refine skip ?_ ?_
        · simp [fX5_totalOf_l6, fX5_totalOf_b159, gR, hrs, c2, oy, nI_1]
        · by_cases w : x3 = -9
          · simp [fX6_totalOf_l6, fX6_totalOf_b32, fX6_totalOf_b173, FrA_rows a2, FrA_day a2, hr, ← r4, c2, w, ct, cl, gy, nI_1]
          · simp [fX6_totalOf_l6, fX6_totalOf_b32, fX6_totalOf_b173, FrA_rows a2, FrA_day a2, hr, ← r4, c2, w, ct, cl, gy, nI_1]
    · rintro ⟨A, x, p⟩ ⟨T, x', q⟩ ⟨a1, a2, a3, a4, a5⟩
      simp only at a1 a2 a3 a4 a5
      subst a3; subst a4; subst a5
      have gR : LG_R A = LG_R lst := a1.2.1
      have c2 : nI nr' ≤ nI nr' := Int32.le_refl _
      exact ⟨.inl (A, x, nI nr'), .inl (T, x, nI nr'), by simp only [fX5_totalOf_l6, gR, hrs, c2, if_true], by simp only [fX6_totalOf_l6, FrA_rows a2, hr, c2, if_true], x, A, T, rfl, rfl, a1, a2⟩
  obtain ⟨r, r', k1, k2, v, A', T', k3, k4, k5, k6⟩ := key
  exact ⟨v, A', T', by simp only [fX5_totalOf, k1, Option.bind_some]; exact k3, by simp only [fX6_totalOf, k2, Option.bind_some]; exact k4, k5, k6⟩
