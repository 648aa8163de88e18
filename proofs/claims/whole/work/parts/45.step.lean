/-! the ledger: filling, one step -/
theorem fillI (len : Nat) (f : Nat → Int32) (v : Int32) (h : len ≤ 1010) : ∃ g, fJ7_fill_53178 len f v = some g ∧ ∀ k, k < len → g k = v := by
  have key : ∃ y, loopN (fun (s : (Nat → Int32) × Int32) => fJ7_fill_53178_l5 len v (Int32.ofNat len) s.1 s.2) fuelN (f, (0 : Int32)) = some y ∧ ∀ k, k < len → y.1 k = v := by
    refine loop_f (fun (i : Nat) (s : (Nat → Int32) × Int32) => (∀ k, k < i → s.1 k = v) ∧ s.2 = nI i) _ len (by omega) ⟨fun k hk => by omega, zero_nI⟩ ?_ ?_
    · rintro i ⟨g, y⟩ hi ⟨a1, a2⟩
      simp only at a1 a2
      subst a2
      left
      have c1 : ¬ Int32.ofNat len ≤ nI i := by show ¬ nI len ≤ nI i; rw [nI_leI (by omega) (by omega)]; omega
      have c2 : inb (nI i) len = true := inb_nI hi (by omega)
      have c3 : (nI i).toNatClampNeg = i := nI_clamp (by omega)
      refine ⟨(upd g i v, nI (i + 1)), by simp only [fJ7_fill_53178_l5, c1, c2, c3, if_true, if_false, nI_1], fun k hk => ?_, rfl⟩
      show upd g i v k = v
      by_cases w : k = i
      · subst w; exact upd_s _ _ _
      · rw [upd_n _ _ w]; exact a1 k (by omega)
    · rintro ⟨g, y⟩ ⟨a1, a2⟩
      simp only at a1 a2
      subst a2
      have c1 : Int32.ofNat len ≤ nI len := Int32.le_refl _
      exact ⟨(g, nI len), by simp only [fJ7_fill_53178_l5, c1, if_true], a1⟩
  obtain ⟨y, k1, k2⟩ := key
  exact ⟨y.1, by simp only [fJ7_fill_53178, k1, Option.bind_some], k2⟩
theorem fillJ (len : Nat) (f : Nat → Int64) (v : Int64) (h : len ≤ 1010) : ∃ g, fJ7_fill_d0a16 len f v = some g ∧ ∀ k, k < len → g k = v := by
  have key : ∃ y, loopN (fun (s : (Nat → Int64) × Int32) => fJ7_fill_d0a16_l6 len v (Int32.ofNat len) s.1 s.2) fuelN (f, (0 : Int32)) = some y ∧ ∀ k, k < len → y.1 k = v := by
    refine loop_f (fun (i : Nat) (s : (Nat → Int64) × Int32) => (∀ k, k < i → s.1 k = v) ∧ s.2 = nI i) _ len (by omega) ⟨fun k hk => by omega, zero_nI⟩ ?_ ?_
    · rintro i ⟨g, y⟩ hi ⟨a1, a2⟩
      simp only at a1 a2
      subst a2
      left
      have c1 : ¬ Int32.ofNat len ≤ nI i := by show ¬ nI len ≤ nI i; rw [nI_leI (by omega) (by omega)]; omega
      have c2 : inb (nI i) len = true := inb_nI hi (by omega)
      have c3 : (nI i).toNatClampNeg = i := nI_clamp (by omega)
      refine ⟨(vp_updL g i v, nI (i + 1)), by simp only [fJ7_fill_d0a16_l6, c1, c2, c3, if_true, if_false, nI_1], fun k hk => ?_, rfl⟩
      show vp_updL g i v k = v
      by_cases w : k = i
      · subst w; exact updL_s _ _ _
      · rw [updL_n _ _ w]; exact a1 k (by omega)
    · rintro ⟨g, y⟩ ⟨a1, a2⟩
      simp only at a1 a2
      subst a2
      have c1 : Int32.ofNat len ≤ nI len := Int32.le_refl _
      exact ⟨(g, nI len), by simp only [fJ7_fill_d0a16_l6, c1, if_true], a1⟩
  obtain ⟨y, k1, k2⟩ := key
  exact ⟨y.1, by simp only [fJ7_fill_d0a16, k1, Option.bind_some], k2⟩
/-- the ledger's holdings but for its scratch and its kept shares -/
def FrH (T H : HS) : Prop := HS_holder T = HS_holder H ∧ HS_held T = HS_held H ∧ HS_hundredths T = HS_hundredths H ∧ HS_day T = HS_day H ∧ HS_size T = HS_size H
theorem FrH_rf (H : HS) : FrH H H := ⟨rfl, rfl, rfl, rfl, rfl⟩
theorem FrH_tr {A B D : HS} (h : FrH A B) (g : FrH B D) : FrH A D := ⟨h.1.trans g.1, h.2.1.trans g.2.1, h.2.2.1.trans g.2.2.1, h.2.2.2.1.trans g.2.2.2.1, h.2.2.2.2.trans g.2.2.2.2⟩
theorem HoldC_fr {n : Nat} {C : Nat → Ent} {T H : HS} (h : HoldC n C H) (g : FrH T H) : HoldC n C T := by
  unfold HoldC at *; rw [g.1, g.2.1, g.2.2.1, g.2.2.2.1, g.2.2.2.2]; exact h
theorem sum10_bound {f : Nat → Nat} {B : Nat} (h : ∀ i, f i ≤ B) : ∀ n, sum10 f n ≤ n * B
  | 0 => Nat.zero_le _
  | n + 1 => by
    have a := sum10_bound h n
    have b := h n
    show sum10 f n + f n ≤ (n + 1) * B
    rw [Nat.add_mul, Nat.one_mul]; omega
theorem step_in {H : HS} {X : Nat → Nat → Nat} {r : Nat → Nat} (hX : ∀ a b, a < 10 → b < 10 → HS_matrix H (10 * a + b) = nI (X a b)) (hb : ∀ a b, X a b ≤ 100) (hr : ∀ v, v < 10 → HS_reached H v = lN (r v)) {t : Nat} (ht : t < 10) : ∃ y, loopN (fun (s : Int64 × Int32) => fX1_lookOneStepAhead_l13 H (nI t) s.1 s.2) fuelN ((0 : Int64), (0 : Int32)) = some y ∧ y.1 = lN (sum10 (fun a => r a * X a t) 10) := by
  refine loop_f (fun (i : Nat) (s : Int64 × Int32) => s.1 = lN (sum10 (fun a => r a * X a t) i) ∧ s.2 = nI i) _ 10 (by omega) ⟨rfl, zero_nI⟩ ?_ ?_
  · rintro i ⟨x, y⟩ hi ⟨a1, a2⟩
    simp only at a1 a2
    subst a1; subst a2
    left
    have c1 : ¬ nI 10 ≤ nI i := by rw [nI_leI (by omega) (by omega)]; omega
    have c2 : inb (nI i) 10 = true := inb_nI hi (by omega)
    have c3 : (nI i).toNatClampNeg = i := nI_clamp (by omega)
    have e : nI i * nI 10 + nI t = nI (10 * i + t) := by rw [pk_mul, nI_add, Nat.mul_comm]
    have c4 : inb (nI (10 * i + t)) 100 = true := inb_nI (by omega) (by omega)
    have c5 : (nI (10 * i + t)).toNatClampNeg = 10 * i + t := nI_clamp (by omega)
    have l : Int32.toInt64 (nI (X i t)) = lN (X i t) := nI_l (by have := hb i t; omega)
    refine ⟨(lN (sum10 (fun a => r a * X a t) (i + 1)), nI (i + 1)), ?_, rfl, rfl⟩
    simp only [fX1_lookOneStepAhead_l13, ten_nI, c1, c2, c3, e, c4, c5, hr i hi, hX i t hi ht, l, lN_mul, lN_add, if_true, if_false, nI_1]
    rfl
  · rintro ⟨x, y⟩ ⟨a1, a2⟩
    simp only at a1 a2
    subst a1; subst a2
    have c1 : nI 10 ≤ nI 10 := Int32.le_refl _
    exact ⟨(lN (sum10 (fun a => r a * X a t) 10), nI 10), by simp only [fX1_lookOneStepAhead_l13, ten_nI, c1, if_true], rfl⟩
theorem step_eq {H : HS} {X : Nat → Nat → Nat} {r : Nat → Nat} (hX : ∀ a b, a < 10 → b < 10 → HS_matrix H (10 * a + b) = nI (X a b)) (hb : ∀ a b, X a b ≤ 100) (hr : ∀ v, v < 10 → HS_reached H v = lN (r v)) (hrb : ∀ v, r v ≤ 1000000000) : ∃ T, fX1_lookOneStepAhead H = some T ∧ FrH T H ∧ HS_matrix T = HS_matrix H ∧ HS_spanShares T = HS_spanShares H ∧ HS_spanIsMade T = HS_spanIsMade H ∧ ∀ v, v < 10 → HS_reachedNext T v = lN (sum10 (fun a => r a * X a v) 10 / 100) := by
  have key : ∃ y, loopN (fun (s : HS × Int32) => fX1_lookOneStepAhead_l2 s.1 s.2) fuelN (H, (0 : Int32)) = some y ∧ FrH y.1 H ∧ HS_matrix y.1 = HS_matrix H ∧ HS_spanShares y.1 = HS_spanShares H ∧ HS_spanIsMade y.1 = HS_spanIsMade H ∧ HS_reached y.1 = HS_reached H ∧ ∀ v, v < 10 → HS_reachedNext y.1 v = lN (sum10 (fun a => r a * X a v) 10 / 100) := by
    refine loop_f (fun (i : Nat) (s : HS × Int32) => FrH s.1 H ∧ HS_matrix s.1 = HS_matrix H ∧ HS_spanShares s.1 = HS_spanShares H ∧ HS_spanIsMade s.1 = HS_spanIsMade H ∧ HS_reached s.1 = HS_reached H ∧ (∀ v, v < i → HS_reachedNext s.1 v = lN (sum10 (fun a => r a * X a v) 10 / 100)) ∧ s.2 = nI i) _ 10 (by omega) ⟨FrH_rf H, rfl, rfl, rfl, rfl, fun v hv => by omega, zero_nI⟩ ?_ ?_
    · rintro i ⟨T, y⟩ hi ⟨a1, a2, a3, a4, a5, a6, a7⟩
      simp only at a1 a2 a3 a4 a5 a6 a7
      subst a7
      left
      have c1 : ¬ nI 10 ≤ nI i := by rw [nI_leI (by omega) (by omega)]; omega
      have c2 : inb (nI i) 10 = true := inb_nI hi (by omega)
      have c3 : (nI i).toNatClampNeg = i := nI_clamp (by omega)
      obtain ⟨w, w1, w2⟩ := step_in (H := T) (X := X) (r := r) (by rw [a2]; exact hX) hb (by rw [a5]; exact hr) hi
      have bnd' : sum10 (fun a => r a * X a i) 10 ≤ 10 * (1000000000 * 100) := sum10_bound (fun a => Nat.mul_le_mul (hrb a) (hb a i)) 10
      have dv : w.1 / 100 = lN (sum10 (fun a => r a * X a i) 10 / 100) := by
        rw [w2, show (100 : Int64) = lN 100 from rfl]; exact pk_lDiv (by omega) (by omega) (by omega)
      refine ⟨(HS_reachedNext_s T (vp_updL (HS_reachedNext T) i (lN (sum10 (fun a => r a * X a i) 10 / 100))), nI (i + 1)), ?_, a1, a2, a3, a4, a5, fun v hv => ?_, rfl⟩
      · simp only [fX1_lookOneStepAhead_l2, ten_nI, c1, c2, c3, w1, Option.bind_some, dv, if_true, if_false, nI_1]
      · show HS_reachedNext (HS_reachedNext_s T _) v = _
        rw [HS_reachedNext_reachedNext]
        by_cases q : v = i
        · subst q; rw [updL_s]
        · rw [updL_n _ _ q]; exact a6 v (by omega)
    · rintro ⟨T, y⟩ ⟨a1, a2, a3, a4, a5, a6, a7⟩
      simp only at a1 a2 a3 a4 a5 a6 a7
      subst a7
      have c1 : nI 10 ≤ nI 10 := Int32.le_refl _
      exact ⟨(T, nI 10), by simp only [fX1_lookOneStepAhead_l2, ten_nI, c1, if_true], a1, a2, a3, a4, a5, a6⟩
  obtain ⟨y, k1, k2, k3, k4, k5, k6, k7⟩ := key
  exact ⟨y.1, by simp only [fX1_lookOneStepAhead, k1, Option.bind_some], k2, k3, k4, k5, k7⟩
