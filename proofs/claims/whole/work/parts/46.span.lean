/-! the ledger makes a span -/
theorem mat_loop {H : HS} {n s : Nat} {C : Nat → Ent} (hC : HoldC n C H) (hn : n ≤ 100) (hs : s ≤ n) (hb : ∀ i, i < n → (C i).1 < 10 ∧ (C i).2.1 < 10) (h0 : ∀ k, k < 100 → HS_matrix H k = 0) : ∃ y, loopN (fun (q : HS × Int32) => fX1_makeSpan_l10 (nI s) q.1 q.2) fuelN (H, (0 : Int32)) = some y ∧ FrH y.1 H ∧ HS_spanShares y.1 = HS_spanShares H ∧ HS_spanIsMade y.1 = HS_spanIsMade H ∧ HS_reached y.1 = HS_reached H ∧ ∀ a b, a < 10 → b < 10 → HS_matrix y.1 (10 * a + b) = nI (matN C s a b) := by
  refine loop_f (fun (i : Nat) (q : HS × Int32) => FrH q.1 H ∧ HS_spanShares q.1 = HS_spanShares H ∧ HS_spanIsMade q.1 = HS_spanIsMade H ∧ HS_reached q.1 = HS_reached H ∧ (∀ a b, a < 10 → b < 10 → HS_matrix q.1 (10 * a + b) = nI (matN C i a b)) ∧ q.2 = nI i) _ s (by omega) ⟨FrH_rf H, rfl, rfl, rfl, fun a b ha hb' => h0 _ (by omega), zero_nI⟩ ?_ ?_
  · rintro i ⟨T, y⟩ hi ⟨a1, a2, a3, a4, a5, a6⟩
    simp only at a1 a2 a3 a4 a5 a6
    subst a6
    left
    have hT := HoldC_fr hC a1
    obtain ⟨v1, v2, v3, v4⟩ := hT.2 i (by omega)
    have bi := hb i (by omega)
    have c1 : ¬ nI s ≤ nI i := by rw [nI_leI (by omega) (by omega)]; omega
    have c2 : inb (nI i) 100 = true := inb_nI (by omega) (by omega)
    have c3 : (nI i).toNatClampNeg = i := nI_clamp (by omega)
    have e : nI (C i).1 * nI 10 + nI (C i).2.1 = nI (10 * (C i).1 + (C i).2.1) := by rw [pk_mul, nI_add, Nat.mul_comm]
    have c4 : inb (nI (10 * (C i).1 + (C i).2.1)) 100 = true := inb_nI (by omega) (by omega)
    have c5 : (nI (10 * (C i).1 + (C i).2.1)).toNatClampNeg = 10 * (C i).1 + (C i).2.1 := nI_clamp (by omega)
    refine ⟨(HS_matrix_s T (upd (HS_matrix T) (10 * (C i).1 + (C i).2.1) (nI (C i).2.2.1)), nI (i + 1)), ?_, a1, a2, a3, a4, fun a b ha hb' => ?_, rfl⟩
    · simp only [fX1_makeSpan_l10, ten_nI, c1, c2, c3, v1, v2, v3, e, c4, c5, if_true, if_false, nI_1]
    · show HS_matrix (HS_matrix_s T _) (10 * a + b) = _
      rw [HS_matrix_matrix]
      have m : matN C (i + 1) a b = if (C i).1 = a ∧ (C i).2.1 = b then (C i).2.2.1 else matN C i a b := rfl
      rw [m]
      by_cases g : 10 * a + b = 10 * (C i).1 + (C i).2.1
      · obtain ⟨g1, g2⟩ := (idx10 hb' bi.2).mp g
        rw [g, upd_s, if_pos ⟨g1.symm, g2.symm⟩]
      · rw [upd_n _ _ g, if_neg (fun w => g (by rw [w.1, w.2]))]
        exact a5 a b ha hb'
  · rintro ⟨T, y⟩ ⟨a1, a2, a3, a4, a5, a6⟩
    simp only at a1 a2 a3 a4 a5 a6
    subst a6
    have c1 : nI s ≤ nI s := Int32.le_refl _
    exact ⟨(T, nI s), by simp only [fX1_makeSpan_l10, c1, if_true], a1, a2, a3, a4, a5⟩
theorem acc_loop {H : HS} {s : Nat} (x1 x3 : Int32) (hs : s ≤ 100) {r p : Nat → Nat} (hr : ∀ v, v < 10 → HS_reachedNext H v = lN (r v)) (hp : ∀ v, v < 10 → HS_spanShares H (s * 10 + v) = lN (p v)) : ∃ y, loopN (fun (q : HS × Int32) => fX1_makeSpan_l99 x1 (nI (s * 10)) x3 q.1 q.2) fuelN (H, (0 : Int32)) = some y ∧ FrH y.1 H ∧ HS_matrix y.1 = HS_matrix H ∧ HS_spanIsMade y.1 = HS_spanIsMade H ∧ (∀ v, v < 10 → HS_reached y.1 v = lN (r v)) ∧ (∀ v, v < 10 → HS_spanShares y.1 (s * 10 + v) = lN (p v + r v)) ∧ (∀ k, (k < s * 10 ∨ s * 10 + 10 ≤ k) → HS_spanShares y.1 k = HS_spanShares H k) := by
  refine loop_f (fun (i : Nat) (q : HS × Int32) => FrH q.1 H ∧ HS_matrix q.1 = HS_matrix H ∧ HS_spanIsMade q.1 = HS_spanIsMade H ∧ HS_reachedNext q.1 = HS_reachedNext H ∧ (∀ v, v < i → HS_reached q.1 v = lN (r v)) ∧ (∀ v, v < i → HS_spanShares q.1 (s * 10 + v) = lN (p v + r v)) ∧ (∀ v, i ≤ v → v < 10 → HS_spanShares q.1 (s * 10 + v) = lN (p v)) ∧ (∀ k, (k < s * 10 ∨ s * 10 + 10 ≤ k) → HS_spanShares q.1 k = HS_spanShares H k) ∧ q.2 = nI i) _ 10 (by omega) ⟨FrH_rf H, rfl, rfl, rfl, fun v hv => by omega, fun v hv => by omega, fun v _ hv => hp v hv, fun _ _ => rfl, zero_nI⟩ ?_ ?_
  · rintro i ⟨T, y⟩ hi ⟨a1, a2, a3, a4, a9, a5, a6, a7, a8⟩
    simp only at a1 a2 a3 a4 a5 a6 a7 a8 a9
    subst a8
    left
    have c1 : ¬ nI 10 ≤ nI i := by rw [nI_leI (by omega) (by omega)]; omega
    have c2 : inb (nI i) 10 = true := inb_nI hi (by omega)
    have c3 : (nI i).toNatClampNeg = i := nI_clamp (by omega)
    have c4 : inb (nI (s * 10 + i)) 1010 = true := inb_nI (by omega) (by omega)
    have c5 : (nI (s * 10 + i)).toNatClampNeg = s * 10 + i := nI_clamp (by omega)
    refine ⟨(HS_reached_s (HS_spanShares_s T (vp_updL (HS_spanShares T) (s * 10 + i) (lN (p i + r i)))) (vp_updL (HS_reached T) i (lN (r i))), nI (i + 1)), ?_, a1, a2, a3, a4, fun v hv => ?_, fun v hv => ?_, fun v h1 h2 => ?_, fun k hk => ?_, rfl⟩
    · simp only [fX1_makeSpan_l99, ten_nI, nI_add, c1, c2, c3, c4, c5, updL_s, a6 i (Nat.le_refl _) hi, a4, hr i hi, lN_add, if_true, if_false, nI_1]
    · show vp_updL (HS_reached T) i (lN (r i)) v = _
      by_cases q : v = i
      · subst q; rw [updL_s]
      · rw [updL_n _ _ q]; exact a9 v (by omega)
    · show vp_updL (HS_spanShares T) (s * 10 + i) (lN (p i + r i)) (s * 10 + v) = _
      by_cases q : v = i
      · subst q; rw [updL_s]
      · rw [updL_n _ _ (by omega)]; exact a5 v (by omega)
    · show vp_updL (HS_spanShares T) (s * 10 + i) (lN (p i + r i)) (s * 10 + v) = _
      rw [updL_n _ _ (by omega)]; exact a6 v (by omega) h2
    · show vp_updL (HS_spanShares T) (s * 10 + i) (lN (p i + r i)) k = _
      rw [updL_n _ _ (by omega)]; exact a7 k hk
  · rintro ⟨T, y⟩ ⟨a1, a2, a3, a4, a9, a5, a6, a7, a8⟩
    simp only at a1 a2 a3 a4 a5 a6 a7 a8 a9
    subst a8
    have c1 : nI 10 ≤ nI 10 := Int32.le_refl _
    exact ⟨(T, nI 10), by simp only [fX1_makeSpan_l99, ten_nI, c1, if_true], a1, a2, a3, a9, a5, a7⟩
