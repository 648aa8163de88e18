/-! the reference lays its table of hundredths -/
theorem HoldM_fr {n : Nat} {M : Nat → Ent} {T m : MS} (h : HoldM n M m) (g : FrA T m) : HoldM n M T := by
  unfold HoldM at *; rw [FrA_holdings g, FrA_who g, FrA_whom g, FrA_part g, FrA_since g]; exact h
theorem nar0 : vp_nar .boolean (0 : Int32) = 0 := rfl
theorem nar1 : vp_nar .boolean (1 : Int32) = 1 := rfl
theorem lay_1 (m : MS) (x1 : Int32) : ∃ y, loopN (fun (s : MS × Int32) => fX6_lay_l2 x1 s.1 s.2) fuelN (m, (0 : Int32)) = some y ∧ FrA y.1 m ∧ ∀ k, k < 100 → MS_held y.1 k = 0 := by
  have e100 : (100 : Int32) = nI 100 := rfl
  refine loop_f (fun (i : Nat) (s : MS × Int32) => FrA s.1 m ∧ (∀ k, k < i → MS_held s.1 k = 0) ∧ s.2 = nI i) _ 100 (by omega) ⟨FrA_rf m, fun k hk => by omega, zero_nI⟩ ?_ ?_
  · rintro i ⟨T, y⟩ hi ⟨a1, a2, a3⟩
    simp only at a1 a2 a3
    subst a3
    left
    have c1 : ¬ nI 100 ≤ nI i := by rw [nI_leI (by omega) (by omega)]; omega
    have c2 : inb (nI i) 100 = true := inb_nI hi (by omega)
    have c3 : (nI i).toNatClampNeg = i := nI_clamp (by omega)
    have c4 : nI i / 10 = nI (i / 10) := pk_div (a := i) (d := 10) (by omega) (by omega) (by omega)
    have c5 : inb (nI (i / 10)) 10 = true := inb_nI (by omega) (by omega)
    refine ⟨(MS_deep_s (MS_held_s T (upd (MS_held T) i 0)) (upd (MS_deep T) (nI (i / 10)).toNatClampNeg (-9)), nI (i + 1)), ?_, FrA_s_deep (FrA_s_held a1 _) _, ?_, rfl⟩
    · simp only [fX6_lay_l2, bnd, e100, c1, c2, c3, c4, c5, if_true, if_false, nI_1, MS_deep_held]
    · intro k hk
      show MS_held (MS_deep_s (MS_held_s T (upd (MS_held T) i 0)) _) k = 0
      rw [MS_held_deep, MS_held_held]
      by_cases w : k = i
      · subst w; rw [upd_s]
      · rw [upd_n _ _ w]; exact a2 k (by omega)
  · rintro ⟨T, y⟩ ⟨a1, a2, a3⟩
    simp only at a1 a2 a3
    subst a3
    have c1 : nI 100 ≤ nI 100 := Int32.le_refl _
    exact ⟨(T, nI 100), by simp only [fX6_lay_l2, e100, c1, if_true], a1, a2⟩
theorem lay_2 (m : MS) (x1 : Int32) : ∃ y, loopN (fun (s : MS × Int32) => fX6_lay_l34 x1 s.1 s.2) fuelN (m, (0 : Int32)) = some y ∧ FrA y.1 m ∧ MS_held y.1 = MS_held m ∧ ∀ k, k < 100 → MS_edge y.1 k = 0 := by
  have e100 : (100 : Int32) = nI 100 := rfl
  refine loop_f (fun (i : Nat) (s : MS × Int32) => FrA s.1 m ∧ MS_held s.1 = MS_held m ∧ (∀ k, k < i → MS_edge s.1 k = 0) ∧ s.2 = nI i) _ 100 (by omega) ⟨FrA_rf m, rfl, fun k hk => by omega, zero_nI⟩ ?_ ?_
  · rintro i ⟨T, y⟩ hi ⟨a1, a0, a2, a3⟩
    simp only at a1 a0 a2 a3
    subst a3
    left
    have c1 : ¬ nI 100 ≤ nI i := by rw [nI_leI (by omega) (by omega)]; omega
    have c2 : inb (nI i) 100 = true := inb_nI hi (by omega)
    have c3 : (nI i).toNatClampNeg = i := nI_clamp (by omega)
    refine ⟨(MS_edge_s T (upd (MS_edge T) i 0), nI (i + 1)), ?_, FrA_s_edge a1 _, (MS_held_edge T _).trans a0, ?_, rfl⟩
    · simp only [fX6_lay_l34, bnd, e100, c1, c2, c3, if_true, if_false, nI_1, nar0]
    · intro k hk
      show MS_edge (MS_edge_s T (upd (MS_edge T) i 0)) k = 0
      rw [MS_edge_edge]
      by_cases w : k = i
      · subst w; rw [upd_s]
      · rw [upd_n _ _ w]; exact a2 k (by omega)
  · rintro ⟨T, y⟩ ⟨a1, a0, a2, a3⟩
    simp only at a1 a0 a2 a3
    subst a3
    have c1 : nI 100 ≤ nI 100 := Int32.le_refl _
    exact ⟨(T, nI 100), by simp only [fX6_lay_l34, e100, c1, if_true], a1, a0, a2⟩
theorem lay_in {n k d : Nat} {M : Nat → Ent} {m : MS} (hM : HoldM n M m) (hn : n ≤ 100) (hk : k < n) (hb : ∀ i, i < n → (M i).1 < 10 ∧ (M i).2.1 < 10 ∧ (M i).2.2.2 < 3650) (hd : d < 3650) (hno : ∀ i, i < k → ¬ ((M i).1 = (M k).1 ∧ (M i).2.1 = (M k).2.1)) (x3 : Int32) : ∃ y, loopN (fun (s : Int32 × Int32) => fX6_lay_l96 m (nI d) (nI k) x3 s.1 s.2) fuelN ((-9 : Int32), nI k) = some y ∧ ((y.1 = -9 ∧ isVal n M (M k).1 (M k).2.1 d 0) ∨ ∃ l, l < n ∧ y.1 = nI l ∧ isVal n M (M k).1 (M k).2.1 d (M l).2.2.1) := by
  have kb := hb k hk
  have q0 := hM.2 k hk
  have ck : inb (nI k) 100 = true := inb_nI (by omega) (by omega)
  have clk : (nI k).toNatClampNeg = k := nI_clamp (by omega)
  refine loop_f (fun (i : Nat) (s : Int32 × Int32) => s.2 = nI (k + i) ∧ k + i ≤ n ∧ ((s.1 = -9 ∧ ∀ j, j < k + i → (M j).1 = (M k).1 → (M j).2.1 = (M k).2.1 → d < (M j).2.2.2) ∨ ∃ l, l < k + i ∧ s.1 = nI l ∧ (M l).1 = (M k).1 ∧ (M l).2.1 = (M k).2.1 ∧ (M l).2.2.2 ≤ d ∧ ∀ j, j < k + i → (M j).1 = (M k).1 → (M j).2.1 = (M k).2.1 → (M j).2.2.2 ≤ d → (M j).2.2.2 ≤ (M l).2.2.2)) _ (n - k) (by omega) ⟨rfl, by omega, Or.inl ⟨rfl, fun j hj h1 h2 => absurd ⟨h1, h2⟩ (hno j hj)⟩⟩ ?_ ?_
  · rintro i ⟨x, y⟩ hi ⟨a1, a2, a3⟩
    simp only at a1 a2 a3
    subst a1
    left
    obtain ⟨j, hj⟩ : ∃ j, j = k + i := ⟨_, rfl⟩
    rw [← hj] at a2 a3 ⊢
    have ej : k + (i + 1) = j + 1 := by omega
    rw [ej]
    have hjn : j < n := by omega
    have jb := hb j hjn
    have c1 : ¬ nI n ≤ nI j := by rw [nI_leI (by omega) (by omega)]; omega
    have c2 : inb (nI j) 100 = true := inb_nI (by omega) (by omega)
    have c3 : (nI j).toNatClampNeg = j := nI_clamp (by omega)
    obtain ⟨v1, v2, v3, v4⟩ := hM.2 j hjn
    have skip : (¬ ((M j).1 = (M k).1 ∧ (M j).2.1 = (M k).2.1) ∨ d < (M j).2.2.2) → ((x = -9 ∧ ∀ q, q < j + 1 → (M q).1 = (M k).1 → (M q).2.1 = (M k).2.1 → d < (M q).2.2.2) ∨ ∃ l, l < j + 1 ∧ x = nI l ∧ (M l).1 = (M k).1 ∧ (M l).2.1 = (M k).2.1 ∧ (M l).2.2.2 ≤ d ∧ ∀ q, q < j + 1 → (M q).1 = (M k).1 → (M q).2.1 = (M k).2.1 → (M q).2.2.2 ≤ d → (M q).2.2.2 ≤ (M l).2.2.2) := by
      intro hh
      rcases a3 with ⟨b1, b2⟩ | ⟨l, b1, b2, b3, b4, b5, b6⟩
      · refine Or.inl ⟨b1, fun q hq h1 h2 => ?_⟩
        by_cases w : q = j
        · subst w
          rcases hh with hh | hh
          · exact absurd ⟨h1, h2⟩ hh
          · exact hh
        · exact b2 q (by omega) h1 h2
      · refine Or.inr ⟨l, by omega, b2, b3, b4, b5, fun q hq h1 h2 h3 => ?_⟩
        by_cases w : q = j
        · subst w
          rcases hh with hh | hh
          · exact absurd ⟨h1, h2⟩ hh
          · omega
        · exact b6 q (by omega) h1 h2 h3
    by_cases g1 : (M j).1 = (M k).1
    case neg =>
      have q1 : ¬ nI (M j).1 = nI (M k).1 := by rw [nI_eq (by omega) (by omega)]; exact g1
      exact ⟨(x, nI (j + 1)), by simp only [fX6_lay_l96, fX6_lay_b176, hM.1, c1, c2, c3, ck, clk, v1, q0.1, q1, if_true, if_false, nI_1], rfl, by omega, skip (Or.inl (fun w => g1 w.1))⟩
    have q1 : nI (M j).1 = nI (M k).1 := by rw [g1]
    by_cases g2 : (M j).2.1 = (M k).2.1
    case neg =>
      have q2 : ¬ nI (M j).2.1 = nI (M k).2.1 := by rw [nI_eq (by omega) (by omega)]; exact g2
      exact ⟨(x, nI (j + 1)), by simp only [fX6_lay_l96, fX6_lay_b176, hM.1, c1, c2, c3, ck, clk, v1, v2, q0.1, q0.2.1, q1, q2, if_true, if_false, nI_1], rfl, by omega, skip (Or.inl (fun w => g2 w.2))⟩
    have q2 : nI (M j).2.1 = nI (M k).2.1 := by rw [g2]
    by_cases g3 : d < (M j).2.2.2
    case pos =>
      have q3 : nI d < nI (M j).2.2.2 := nI_lt g3 (by omega)
      exact ⟨(x, nI (j + 1)), by simp only [fX6_lay_l96, fX6_lay_b176, hM.1, c1, c2, c3, ck, clk, v1, v2, v4, q0.1, q0.2.1, q1, q2, q3, if_true, if_false, nI_1], rfl, by omega, skip (Or.inr g3)⟩
    have q3 : ¬ nI d < nI (M j).2.2.2 := by rw [nI_ltI (by omega) (by omega)]; exact g3
    rcases a3 with ⟨b1, b2⟩ | ⟨l, b1, b2, b3, b4, b5, b6⟩
    · refine ⟨(nI j, nI (j + 1)), by simp only [fX6_lay_l96, fX6_lay_b172, fX6_lay_b176, hM.1, c1, c2, c3, ck, clk, v1, v2, v4, q0.1, q0.2.1, q1, q2, q3, b1, if_true, if_false, nI_1], rfl, by omega, Or.inr ⟨j, by omega, rfl, g1, g2, by omega, fun q hq h1 h2 h3 => ?_⟩⟩
      by_cases w : q = j
      · subst w; exact Nat.le_refl _
      · have := b2 q (by omega) h1 h2; omega
    · have lb := hb l (by omega)
      have cl2 : inb (nI l) 100 = true := inb_nI (by omega) (by omega)
      have cl3 : (nI l).toNatClampNeg = l := nI_clamp (by omega)
      have n9' : ¬ nI l = -9 := nI_n9 (by omega)
      have vl := (hM.2 l (by omega)).2.2.2
      by_cases g4 : (M j).2.2.2 ≤ (M l).2.2.2
      · have q4 : nI (M j).2.2.2 ≤ nI (M l).2.2.2 := nI_le g4 (by omega)
        refine ⟨(x, nI (j + 1)), by simp only [fX6_lay_l96, fX6_lay_b176, hM.1, c1, c2, c3, ck, clk, v1, v2, v4, q0.1, q0.2.1, q1, q2, q3, b2, n9', cl2, cl3, vl, q4, if_true, if_false, nI_1], rfl, by omega, Or.inr ⟨l, by omega, b2, b3, b4, b5, fun q hq h1 h2 h3 => ?_⟩⟩
        by_cases w : q = j
        · subst w; exact g4
        · exact b6 q (by omega) h1 h2 h3
      · have q4 : ¬ nI (M j).2.2.2 ≤ nI (M l).2.2.2 := by rw [nI_leI (by omega) (by omega)]; exact g4
        refine ⟨(nI j, nI (j + 1)), by simp only [fX6_lay_l96, fX6_lay_b172, fX6_lay_b176, hM.1, c1, c2, c3, ck, clk, v1, v2, v4, q0.1, q0.2.1, q1, q2, q3, b2, n9', cl2, cl3, vl, q4, if_true, if_false, nI_1], rfl, by omega, Or.inr ⟨j, by omega, rfl, g1, g2, by omega, fun q hq h1 h2 h3 => ?_⟩⟩
        by_cases w : q = j
        · subst w; exact Nat.le_refl _
        · have := b6 q (by omega) h1 h2 h3; omega
  · rintro ⟨x, y⟩ ⟨a1, a2, a3⟩
    simp only at a1 a2 a3
    subst a1
    have e : k + (n - k) = n := by omega
    rw [e] at a3 ⊢
    have c1 : nI n ≤ nI n := Int32.le_refl _
    refine ⟨(x, nI n), by simp only [fX6_lay_l96, hM.1, c1, if_true], ?_⟩
    rcases a3 with ⟨b1, b2⟩ | ⟨l, b1, b2, b3, b4, b5, b6⟩
    · exact Or.inl ⟨b1, Or.inl ⟨rfl, b2⟩⟩
    · exact Or.inr ⟨l, b1, b2, Or.inr ⟨l, b1, b3, b4, b5, rfl, b6⟩⟩
theorem idx10 {a b a' b' : Nat} (hb : b < 10) (hb' : b' < 10) : 10 * a + b = 10 * a' + b' ↔ a = a' ∧ b = b' := by omega
theorem lay_3 {n d : Nat} {M : Nat → Ent} {m : MS} (hM : HoldM n M m) (hn : n ≤ 100) (hb : ∀ i, i < n → (M i).1 < 10 ∧ (M i).2.1 < 10 ∧ (M i).2.2.2 < 3650) (hd : d < 3650) (h0 : ∀ k, k < 100 → MS_held m k = 0) (h1 : ∀ k, k < 100 → MS_edge m k = 0) : ∃ y, loopN (fun (s : MS × Int32) => fX6_lay_l55 (nI d) s.1 s.2) fuelN (m, (0 : Int32)) = some y ∧ FrA y.1 m ∧ ∀ a b, a < 10 → b < 10 → ∃ v, MS_held y.1 (10 * a + b) = nI v ∧ isVal n M a b d v := by
  refine loop_f (fun (i : Nat) (s : MS × Int32) => FrA s.1 m ∧ (∀ a b, a < 10 → b < 10 → (MS_edge s.1 (10 * a + b) = 0 ∧ MS_held s.1 (10 * a + b) = 0 ∧ ∀ j, j < i → ¬ ((M j).1 = a ∧ (M j).2.1 = b)) ∨ (MS_edge s.1 (10 * a + b) = 1 ∧ ∃ v, MS_held s.1 (10 * a + b) = nI v ∧ isVal n M a b d v)) ∧ s.2 = nI i) _ n (by omega) ⟨FrA_rf m, fun a b ha hb' => Or.inl ⟨h1 _ (by omega), h0 _ (by omega), fun j hj => by omega⟩, zero_nI⟩ ?_ ?_
  · rintro k ⟨T, y⟩ hk ⟨a1, a2, a3⟩
    simp only at a1 a2 a3
    subst a3
    left
    have hT := HoldM_fr hM a1
    have kb := hb k hk
    obtain ⟨v1, v2, v3, v4⟩ := hT.2 k hk
    have c1 : ¬ nI n ≤ nI k := by rw [nI_leI (by omega) (by omega)]; omega
    have c2 : inb (nI k) 100 = true := inb_nI (by omega) (by omega)
    have c3 : (nI k).toNatClampNeg = k := nI_clamp (by omega)
    have ea : (10 : Int32) * nI (M k).1 + nI (M k).2.1 = nI (10 * (M k).1 + (M k).2.1) := by rw [show (10 : Int32) = nI 10 from rfl, pk_mul, nI_add]
    have c4 : inb (nI (10 * (M k).1 + (M k).2.1)) 100 = true := inb_nI (by omega) (by omega)
    have c5 : (nI (10 * (M k).1 + (M k).2.1)).toNatClampNeg = 10 * (M k).1 + (M k).2.1 := nI_clamp (by omega)
    have t10 : ¬ (1 : Int32) = 0 := by decide
    rcases a2 (M k).1 (M k).2.1 kb.1 kb.2.1 with ⟨e1, e2, e3⟩ | ⟨e1, e2⟩
    · -- the pair's first
      have wr : ∀ w, isVal n M (M k).1 (M k).2.1 d w → ∃ Z, fX6_lay_b205 T (nI d) (nI k) (nI (10 * (M k).1 + (M k).2.1)) (nI (10 * (M k).1 + (M k).2.1)) (nI w) = some (.inl (Z, nI (k + 1))) ∧ FrA Z m ∧ ∀ a b, a < 10 → b < 10 → (MS_edge Z (10 * a + b) = 0 ∧ MS_held Z (10 * a + b) = 0 ∧ ∀ j, j < k + 1 → ¬ ((M j).1 = a ∧ (M j).2.1 = b)) ∨ (MS_edge Z (10 * a + b) = 1 ∧ ∃ v, MS_held Z (10 * a + b) = nI v ∧ isVal n M a b d v) := by
        intro w hw
        refine ⟨MS_edge_s (MS_held_s T (upd (MS_held T) (10 * (M k).1 + (M k).2.1) (nI w))) (upd (MS_edge T) (10 * (M k).1 + (M k).2.1) 1), ?_, FrA_s_edge (FrA_s_held a1 _) _, ?_⟩
        · simp only [fX6_lay_b205, fX6_lay_b213, bnd, c4, c5, if_true, nar1, MS_edge_held, nI_1]
        · intro a b ha hb'
          simp only [MS_edge_edge, MS_held_edge, MS_held_held]
          by_cases g : 10 * a + b = 10 * (M k).1 + (M k).2.1
          · obtain ⟨g1, g2⟩ := (idx10 hb' kb.2.1).mp g
            rw [g, upd_s, upd_s, g1, g2]
            exact Or.inr ⟨rfl, w, rfl, hw⟩
          · rw [upd_n _ _ g, upd_n _ _ g]
            rcases a2 a b ha hb' with ⟨f1, f2, f3⟩ | f
            · refine Or.inl ⟨f1, f2, fun j hj hh => ?_⟩
              by_cases x : j = k
              · subst x; exact g (by rw [hh.1, hh.2])
              · exact f3 j (by omega) hh
            · exact Or.inr f
      obtain ⟨r, k1, k2⟩ := lay_in hT hn hk hb hd e3 (nI (10 * (M k).1 + (M k).2.1))
      have body : ∀ Z, (if r.1 = (-9 : Int32) then fX6_lay_b205 T (nI d) (nI k) (nI (10 * (M k).1 + (M k).2.1)) (nI (10 * (M k).1 + (M k).2.1)) (0 : Int32) else (if inb r.1 100 = true then fX6_lay_b205 T (nI d) (nI k) (nI (10 * (M k).1 + (M k).2.1)) (nI (10 * (M k).1 + (M k).2.1)) ((MS_part T) (r.1).toNatClampNeg) else none)) = Z → fX6_lay_l55 (nI d) T (nI k) = Z := by
        intro Z hZ
        simp only [fX6_lay_l55, hT.1, c1, c2, c3, v1, v2, ea, c4, c5, e1, k1, Option.bind_some, if_true, if_false]
        exact hZ
      rcases k2 with ⟨q1, q2⟩ | ⟨l, q0, q1, q2⟩
      · obtain ⟨Z, w1, w2, w3⟩ := wr 0 q2
        exact ⟨(Z, nI (k + 1)), body _ (by rw [if_pos q1]; exact w1), w2, w3, rfl⟩
      · obtain ⟨Z, w1, w2, w3⟩ := wr (M l).2.2.1 q2
        have n9' : ¬ nI l = -9 := nI_n9 (by omega)
        have cl2 : inb (nI l) 100 = true := inb_nI (by omega) (by omega)
        have cl3 : (nI l).toNatClampNeg = l := nI_clamp (by omega)
        exact ⟨(Z, nI (k + 1)), body _ (by rw [q1, if_neg n9', if_pos cl2, cl3, (hT.2 l q0).2.2.1]; exact w1), w2, w3, rfl⟩
    · refine ⟨(T, nI (k + 1)), ?_, a1, ?_, rfl⟩
      · simp only [fX6_lay_l55, fX6_lay_b213, hT.1, c1, c2, c3, v1, v2, ea, c4, c5, e1, t10, if_true, if_false, nI_1]
      · intro a b ha hb'
        rcases a2 a b ha hb' with ⟨f1, f2, f3⟩ | f
        · refine Or.inl ⟨f1, f2, fun j hj hh => ?_⟩
          by_cases x : j = k
          · subst x
            rw [hh.1, hh.2, f1] at e1
            exact absurd e1 (by decide)
          · exact f3 j (by omega) hh
        · exact Or.inr f
  · rintro ⟨T, y⟩ ⟨a1, a2, a3⟩
    simp only at a1 a2 a3
    subst a3
    have hT := HoldM_fr hM a1
    have c1 : nI n ≤ nI n := Int32.le_refl _
    refine ⟨(T, nI n), by simp only [fX6_lay_l55, hT.1, c1, if_true], a1, fun a b ha hb' => ?_⟩
    rcases a2 a b ha hb' with ⟨f1, f2, f3⟩ | ⟨-, f⟩
    · exact ⟨0, f2, Or.inl ⟨rfl, fun i hi q1 q2 => absurd ⟨q1, q2⟩ (f3 i hi)⟩⟩
    · exact f
theorem lay_eq {n d : Nat} {M : Nat → Ent} {m : MS} (hM : HoldM n M m) (hn : n ≤ 100) (hb : ∀ i, i < n → (M i).1 < 10 ∧ (M i).2.1 < 10 ∧ (M i).2.2.2 < 3650) (hd : d < 3650) : ∃ T, fX6_lay m (nI d) = some T ∧ FrA T m ∧ ∀ a b, a < 10 → b < 10 → ∃ v, MS_held T (10 * a + b) = nI v ∧ isVal n M a b d v := by
  obtain ⟨y1, k1, k2, k3⟩ := lay_1 m (nI d)
  obtain ⟨y2, l1, l2, l3, l4⟩ := lay_2 y1.1 (nI d)
  have f2 := FrA_tr l2 k2
  obtain ⟨y3, p1, p2, p3⟩ := lay_3 (HoldM_fr hM f2) hn hb hd (fun k hk => by rw [l3]; exact k3 k hk) l4
  exact ⟨y3.1, by simp only [fX6_lay, k1, l1, p1, Option.bind_some], FrA_tr p2 f2, p3⟩
