/-! the reference's shares -/
theorem updL_s (f : Nat → Int64) (k : Nat) (x : Int64) : vp_updL f k x k = x := pk_uLs
theorem updL_n (f : Nat → Int64) {k j : Nat} (x : Int64) (h : j ≠ k) : vp_updL f k x j = f j := pk_uLn h
def HeldIs (X : Nat → Nat → Nat) (m : MS) : Prop := (∀ a b, X a b ≤ 100) ∧ ∀ a b, a < 10 → b < 10 → MS_held m (10 * a + b) = nI (X a b)
/-- the reference's sum for a unit that isn't the group -/
def shM (X : Nat → Nat → Nat) (u : Nat) : Nat := if u = 0 then 1000000 else 10000 * X 0 u + sum10 (fun a => 100 * X 0 (1 + a) * X (1 + a) u + sum10 (fun b => X 0 (1 + a) * X (1 + a) (1 + b) * X (1 + b) u) 9) 9
theorem ten_nI : (10 : Int32) = nI 10 := rfl
theorem at10 (a b : Nat) : (10 : Int32) * nI a + nI b = nI (10 * a + b) := by rw [ten_nI, pk_mul, nI_add]
theorem sh_in {X : Nat → Nat → Nat} {m : MS} (hX : HeldIs X m) {u a : Nat} (hu : u < 10) (ha : a < 10) : ∃ y, loopN (fun (s : MS × Int32) => fX6_shares_l88 (nI u) (nI a) s.1 s.2) fuelN (m, (1 : Int32)) = some y ∧ FrA y.1 m ∧ MS_held y.1 = MS_held m ∧ (∀ v, v ≠ u → MS_share y.1 v = MS_share m v) ∧ MS_share y.1 u = MS_share m u + lN (sum10 (fun b => X 0 a * X a (1 + b) * X (1 + b) u) 9) := by
  have z : MS_share m u = MS_share m u + lN 0 := by rw [show lN 0 = 0 from rfl, Int64.add_zero]
  refine loop_f (fun (i : Nat) (s : MS × Int32) => FrA s.1 m ∧ MS_held s.1 = MS_held m ∧ (∀ v, v ≠ u → MS_share s.1 v = MS_share m v) ∧ MS_share s.1 u = MS_share m u + lN (sum10 (fun b => X 0 a * X a (1 + b) * X (1 + b) u) i) ∧ s.2 = nI (1 + i)) _ 9 (by omega) ⟨FrA_rf m, rfl, fun _ _ => rfl, z, rfl⟩ ?_ ?_
  · rintro i ⟨T, y⟩ hi ⟨a1, a2, a3, a4, a5⟩
    simp only at a1 a2 a3 a4 a5
    subst a5
    left
    have c1 : ¬ nI 10 ≤ nI (1 + i) := by rw [nI_leI (by omega) (by omega)]; omega
    have c2 : inb (nI u) 10 = true := inb_nI hu (by omega)
    have c3 : inb (nI a) 100 = true := inb_nI (by omega) (by omega)
    have c4 : inb (nI (10 * a + (1 + i))) 100 = true := inb_nI (by omega) (by omega)
    have c5 : inb (nI (10 * (1 + i) + u)) 100 = true := inb_nI (by omega) (by omega)
    have d1 : (nI u).toNatClampNeg = u := nI_clamp (by omega)
    have d2 : (nI a).toNatClampNeg = a := nI_clamp (by omega)
    have d3 : (nI (10 * a + (1 + i))).toNatClampNeg = 10 * a + (1 + i) := nI_clamp (by omega)
    have d4 : (nI (10 * (1 + i) + u)).toNatClampNeg = 10 * (1 + i) + u := nI_clamp (by omega)
    have h1 : MS_held T a = nI (X 0 a) := by rw [a2]; have := hX.2 0 a (by omega) ha; simpa using this
    have h2 : MS_held T (10 * a + (1 + i)) = nI (X a (1 + i)) := by rw [a2]; exact hX.2 a (1 + i) ha (by omega)
    have h3 : MS_held T (10 * (1 + i) + u) = nI (X (1 + i) u) := by rw [a2]; exact hX.2 (1 + i) u (by omega) hu
    have l : ∀ p q, Int32.toInt64 (nI (X p q)) = lN (X p q) := fun p q => nI_l (by have := hX.1 p q; omega)
    have e1 : nI (1 + i) + 1 = nI (1 + (i + 1)) := nI_1 (1 + i)
    refine ⟨(MS_share_s T (vp_updL (MS_share T) u (MS_share T u + lN (X 0 a * X a (1 + i) * X (1 + i) u))), nI (1 + (i + 1))), ?_, FrA_s_share a1 _, (MS_held_share T _).trans a2, ?_, ?_, rfl⟩
    · simp only [fX6_shares_l88, bnd, ten_nI, pk_mul, nI_add, c1, c2, c3, c4, c5, d1, d2, d3, d4, h1, h2, h3, l, lN_mul, e1, if_true, if_false]
    · intro v hv
      show MS_share (MS_share_s T _) v = _
      rw [MS_share_share, updL_n _ _ hv]; exact a3 v hv
    · show MS_share (MS_share_s T _) u = _
      rw [MS_share_share, updL_s, a4, Int64.add_assoc, lN_add]; rfl
  · rintro ⟨T, y⟩ ⟨a1, a2, a3, a4, a5⟩
    simp only at a1 a2 a3 a4 a5
    subst a5
    have c1 : nI 10 ≤ nI (1 + 9) := by decide
    exact ⟨(T, nI (1 + 9)), by simp only [fX6_shares_l88, ten_nI, c1, if_true], a1, a2, a3, a4⟩
theorem HeldIs_fr {X : Nat → Nat → Nat} {T m : MS} (h : HeldIs X m) (e : MS_held T = MS_held m) : HeldIs X T := ⟨h.1, fun a b ha hb => by rw [e]; exact h.2 a b ha hb⟩
theorem sh_mid {X : Nat → Nat → Nat} {m : MS} (hX : HeldIs X m) {u : Nat} (hu : u < 10) (hu0 : 0 < u) : ∃ y, loopN (fun (s : MS × Int32) => fX6_shares_l42 (nI u) s.1 s.2) fuelN (m, (1 : Int32)) = some y ∧ FrA y.1 m ∧ MS_held y.1 = MS_held m ∧ (∀ v, v ≠ u → MS_share y.1 v = MS_share m v) ∧ MS_share y.1 u = MS_share m u + lN (sum10 (fun a => 100 * X 0 (1 + a) * X (1 + a) u + sum10 (fun b => X 0 (1 + a) * X (1 + a) (1 + b) * X (1 + b) u) 9) 9) := by
  have z : MS_share m u = MS_share m u + lN 0 := by rw [show lN 0 = 0 from rfl, Int64.add_zero]
  refine loop_f (fun (i : Nat) (s : MS × Int32) => FrA s.1 m ∧ MS_held s.1 = MS_held m ∧ (∀ v, v ≠ u → MS_share s.1 v = MS_share m v) ∧ MS_share s.1 u = MS_share m u + lN (sum10 (fun a => 100 * X 0 (1 + a) * X (1 + a) u + sum10 (fun b => X 0 (1 + a) * X (1 + a) (1 + b) * X (1 + b) u) 9) i) ∧ s.2 = nI (1 + i)) _ 9 (by omega) ⟨FrA_rf m, rfl, fun _ _ => rfl, z, rfl⟩ ?_ ?_
  · rintro i ⟨T, y⟩ hi ⟨a1, a2, a3, a4, a5⟩
    simp only at a1 a2 a3 a4 a5
    subst a5
    left
    have c1 : ¬ nI 10 ≤ nI (1 + i) := by rw [nI_leI (by omega) (by omega)]; omega
    have c0 : ¬ nI u ≤ 0 := nI_nle hu0 (by omega)
    have c2 : inb (nI u) 10 = true := inb_nI hu (by omega)
    have c3 : inb (nI (1 + i)) 100 = true := inb_nI (by omega) (by omega)
    have c5 : inb (nI (10 * (1 + i) + u)) 100 = true := inb_nI (by omega) (by omega)
    have d1 : (nI u).toNatClampNeg = u := nI_clamp (by omega)
    have d2 : (nI (1 + i)).toNatClampNeg = 1 + i := nI_clamp (by omega)
    have d4 : (nI (10 * (1 + i) + u)).toNatClampNeg = 10 * (1 + i) + u := nI_clamp (by omega)
    have h1 : MS_held T (1 + i) = nI (X 0 (1 + i)) := by rw [a2]; have := hX.2 0 (1 + i) (by omega) (by omega); simpa using this
    have h3 : MS_held T (10 * (1 + i) + u) = nI (X (1 + i) u) := by rw [a2]; exact hX.2 (1 + i) u (by omega) hu
    have l : ∀ p q, Int32.toInt64 (nI (X p q)) = lN (X p q) := fun p q => nI_l (by have := hX.1 p q; omega)
    have e1 : nI (1 + i) + 1 = nI (1 + (i + 1)) := nI_1 (1 + i)
    have e100 : (100 : Int64) = lN 100 := rfl
    obtain ⟨Z, hZ⟩ : ∃ Z, Z = MS_share_s T (vp_updL (MS_share T) u (MS_share T u + lN (100 * X 0 (1 + i) * X (1 + i) u))) := ⟨_, rfl⟩
    have zh : MS_held Z = MS_held m := by rw [hZ, MS_held_share]; exact a2
    have zs : ∀ v, v ≠ u → MS_share Z v = MS_share m v := by intro v hv; rw [hZ, MS_share_share, updL_n _ _ hv]; exact a3 v hv
    have zu : MS_share Z u = MS_share T u + lN (100 * X 0 (1 + i) * X (1 + i) u) := by rw [hZ, MS_share_share, updL_s]
    have zf : FrA Z m := by rw [hZ]; exact FrA_s_share a1 _
    obtain ⟨w, w1, w2, w3, w4, w5⟩ := sh_in (HeldIs_fr hX zh) hu (a := 1 + i) (by omega)
    refine ⟨(w.1, nI (1 + (i + 1))), ?_, FrA_tr w2 zf, w3.trans zh, fun v hv => (w4 v hv).trans (zs v hv), ?_, rfl⟩
    · simp only [fX6_shares_l42, bnd, ten_nI, e100, pk_mul, nI_add, c0, c1, c2, c3, c5, d1, d2, d4, h1, h3, l, lN_mul, if_true, if_false, ← hZ, w1, Option.bind_some, e1]
    · show MS_share w.1 u = _
      rw [w5, zu, a4, Int64.add_assoc, Int64.add_assoc, lN_add, lN_add]; rfl
  · rintro ⟨T, y⟩ ⟨a1, a2, a3, a4, a5⟩
    simp only at a1 a2 a3 a4 a5
    subst a5
    have c1 : nI 10 ≤ nI (1 + 9) := by decide
    exact ⟨(T, nI (1 + 9)), by simp only [fX6_shares_l42, ten_nI, c1, if_true], a1, a2, a3, a4⟩
theorem sh_out {X : Nat → Nat → Nat} {m : MS} (hX : HeldIs X m) : ∃ y, loopN (fun (s : MS × Int32) => fX6_shares_l7 s.1 s.2) fuelN (m, (0 : Int32)) = some y ∧ FrA y.1 m ∧ ∀ v, v < 10 → MS_share y.1 v = lN (shM X v) := by
  refine loop_f (fun (i : Nat) (s : MS × Int32) => FrA s.1 m ∧ MS_held s.1 = MS_held m ∧ (∀ v, v < i → MS_share s.1 v = lN (shM X v)) ∧ s.2 = nI i) _ 10 (by omega) ⟨FrA_rf m, rfl, fun v hv => by omega, zero_nI⟩ ?_ ?_
  · rintro i ⟨T, y⟩ hi ⟨a1, a2, a3, a5⟩
    simp only at a1 a2 a3 a5
    subst a5
    left
    have c1 : ¬ nI 10 ≤ nI i := by rw [nI_leI (by omega) (by omega)]; omega
    have c2 : inb (nI i) 10 = true := inb_nI hi (by omega)
    have c3 : inb (nI i) 100 = true := inb_nI (by omega) (by omega)
    have d1 : (nI i).toNatClampNeg = i := nI_clamp (by omega)
    by_cases g : i = 0
    · subst g
      have g0 : nI 0 = 0 := rfl
      have c10 : ¬ nI 10 ≤ 1 := by decide
      have c00 : (0 : Int32) ≤ 0 := by decide
      have c2' : inb 0 10 = true := by decide
      have d0 : (0 : Int32).toNatClampNeg = 0 := rfl
      have lp : ∀ Z : MS, loopN (fun (s : MS × Int32) => fX6_shares_l42 (0 : Int32) s.1 s.2) fuelN (Z, (1 : Int32)) = some (Z, 1) := by
        intro Z
        obtain ⟨r, k1, k2⟩ := loop_f (body := fun (s : MS × Int32) => fX6_shares_l42 (0 : Int32) s.1 s.2) (fun (_ : Nat) (s : MS × Int32) => s = (Z, 1)) (fun r => r = (Z, 1)) 0 (by omega) (s := (Z, 1)) rfl (fun i s hi => by omega) (by
          rintro s rfl
          exact ⟨(Z, 1), by simp only [fX6_shares_l42, ten_nI, c10, c00, if_true, if_false], rfl⟩)
        rw [k1, k2]
      refine ⟨(MS_share_s T (vp_updL (MS_share T) 0 1000000), nI 1), ?_, FrA_s_share a1 _, (MS_held_share T _).trans a2, ?_, rfl⟩
      · have c1' : ¬ nI 10 ≤ 0 := by decide
        show fX6_shares_l7 T (nI 0) = _
        simp only [fX6_shares_l7, fX6_shares_b39, g0, ten_nI, c1', c2', d0, bnd, lp, Option.bind_some, if_true, if_false]
        rfl
      · intro v hv
        have : v = 0 := by omega
        subst this
        show MS_share (MS_share_s T _) 0 = _
        rw [MS_share_share, updL_s]; rfl
    · have g0 : ¬ nI i = 0 := nI_ne0 (by omega) (by omega)
      have h1 : MS_held T i = nI (X 0 i) := by rw [a2]; have := hX.2 0 i (by omega) hi; simpa using this
      have l : Int32.toInt64 (nI (X 0 i)) = lN (X 0 i) := nI_l (by have := hX.1 0 i; omega)
      have e100 : (10000 : Int64) = lN 10000 := rfl
      obtain ⟨Z, hZ⟩ : ∃ Z, Z = MS_share_s T (vp_updL (MS_share T) i (lN (10000 * X 0 i))) := ⟨_, rfl⟩
      have zh : MS_held Z = MS_held m := by rw [hZ, MS_held_share]; exact a2
      have zs : ∀ v, v ≠ i → MS_share Z v = MS_share T v := by intro v hv; rw [hZ, MS_share_share, updL_n _ _ hv]
      have zu : MS_share Z i = lN (10000 * X 0 i) := by rw [hZ, MS_share_share, updL_s]
      have zf : FrA Z m := by rw [hZ]; exact FrA_s_share a1 _
      obtain ⟨w, w1, w2, w3, w4, w5⟩ := sh_mid (HeldIs_fr hX zh) hi (by omega)
      refine ⟨(w.1, nI (i + 1)), ?_, FrA_tr w2 zf, w3.trans zh, ?_, rfl⟩
      · simp only [fX6_shares_l7, fX6_shares_b39, ten_nI, e100, c1, c2, c3, d1, g0, h1, l, lN_mul, bnd, ← hZ, w1, Option.bind_some, if_true, if_false, nI_1]
      · intro v hv
        show MS_share w.1 v = _
        by_cases q : v = i
        · subst q
          rw [w5, zu, lN_add]; unfold shM; rw [if_neg g]
        · rw [w4 v q, zs v q]; exact a3 v (by omega)
  · rintro ⟨T, y⟩ ⟨a1, a2, a3, a5⟩
    simp only at a1 a2 a3 a5
    subst a5
    have c1 : nI 10 ≤ nI 10 := Int32.le_refl _
    exact ⟨(T, nI 10), by simp only [fX6_shares_l7, ten_nI, c1, if_true], a1, a3⟩
