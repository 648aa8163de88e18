/-! three steps -/
def rS (X : Nat → Nat → Nat) : Nat → Nat → Nat
  | 0 => fun v => if v = 0 then 1000000 else 0
  | k + 1 => fun v => sum10 (fun a => rS X k a * X a v) 10 / 100
theorem rS_b {X : Nat → Nat → Nat} (hb : ∀ a b, X a b ≤ 100) : ∀ k, k ≤ 3 → ∀ v, rS X k v ≤ 1000000 * 10 ^ k
  | 0, _, v => by show (if v = 0 then 1000000 else 0) ≤ _; split <;> simp
  | k + 1, hk, v => by
    have ih := rS_b hb k (by omega)
    have b := sum10_bound (f := fun a => rS X k a * X a v) (B := 1000000 * 10 ^ k * 100) (fun a => Nat.mul_le_mul (ih a) (hb a v)) 10
    show sum10 (fun a => rS X k a * X a v) 10 / 100 ≤ 1000000 * 10 ^ (k + 1)
    rw [Nat.pow_succ]
    generalize sum10 (fun a => rS X k a * X a v) 10 = q at b
    generalize 10 ^ k = w at b ⊢
    omega
def rT (X : Nat → Nat → Nat) (i v : Nat) : Nat := sum10 (fun j => rS X j v) (i + 1)
theorem steps_loop {H : HS} {X : Nat → Nat → Nat} {s : Nat} (x1 : Int32) (hs : s ≤ 100) (hb : ∀ a b, X a b ≤ 100) (hX : ∀ a b, a < 10 → b < 10 → HS_matrix H (10 * a + b) = nI (X a b)) (hr : ∀ v, v < 10 → HS_reached H v = lN (rS X 0 v)) (hp : ∀ v, v < 10 → HS_spanShares H (s * 10 + v) = lN (rT X 0 v)) : ∃ y, loopN (fun (q : HS × Int32) => fX1_makeSpan_l87 x1 (nI (s * 10)) q.1 q.2) fuelN (H, (0 : Int32)) = some y ∧ FrH y.1 H ∧ HS_spanIsMade y.1 = HS_spanIsMade H ∧ (∀ v, v < 10 → HS_spanShares y.1 (s * 10 + v) = lN (rT X 3 v)) ∧ (∀ k, (k < s * 10 ∨ s * 10 + 10 ≤ k) → HS_spanShares y.1 k = HS_spanShares H k) := by
  have e3 : (3 : Int32) = nI 3 := rfl
  refine loop_f (fun (i : Nat) (q : HS × Int32) => FrH q.1 H ∧ HS_matrix q.1 = HS_matrix H ∧ HS_spanIsMade q.1 = HS_spanIsMade H ∧ (∀ v, v < 10 → HS_reached q.1 v = lN (rS X i v)) ∧ (∀ v, v < 10 → HS_spanShares q.1 (s * 10 + v) = lN (rT X i v)) ∧ (∀ k, (k < s * 10 ∨ s * 10 + 10 ≤ k) → HS_spanShares q.1 k = HS_spanShares H k) ∧ q.2 = nI i) _ 3 (by omega) ⟨FrH_rf H, rfl, rfl, hr, hp, fun _ _ => rfl, zero_nI⟩ ?_ ?_
  · rintro i ⟨T, y⟩ hi ⟨a1, a2, a3, a4, a5, a6, a7⟩
    simp only at a1 a2 a3 a4 a5 a6 a7
    subst a7
    left
    have c1 : ¬ nI 3 ≤ nI i := by rw [nI_leI (by omega) (by omega)]; omega
    have rb : ∀ v, rS X i v ≤ 1000000000 := by
      intro v
      have := rS_b hb i (by omega) v
      have : 10 ^ i ≤ 10 ^ 3 := Nat.pow_le_pow_right (by omega) (by omega)
      omega
    obtain ⟨Z, z1, z2, z3, z4, z5, z6⟩ := step_eq (H := T) (X := X) (r := rS X i) (by rw [a2]; exact hX) hb a4 rb
    obtain ⟨w, w1, w2, w3, w4, w5, w6, w7⟩ := acc_loop (H := Z) x1 (nI i) hs (r := rS X (i + 1)) (p := rT X i) z6 (by rw [z4]; exact a5)
    refine ⟨(w.1, nI (i + 1)), ?_, FrH_tr w2 (FrH_tr z2 a1), w3.trans (z3.trans a2), w4.trans (z5.trans a3), fun v hv => ?_, fun v hv => ?_, fun k hk => ?_, rfl⟩
    · simp only [fX1_makeSpan_l87, e3, c1, z1, w1, Option.bind_some, if_false, nI_1]
    · exact w5 v hv
    · exact w6 v hv
    · exact (w7 k hk).trans (by rw [z4]; exact a6 k hk)
  · rintro ⟨T, y⟩ ⟨a1, a2, a3, a4, a5, a6, a7⟩
    simp only at a1 a2 a3 a4 a5 a6 a7
    subst a7
    have c1 : nI 3 ≤ nI 3 := Int32.le_refl _
    exact ⟨(T, nI 3), by simp only [fX1_makeSpan_l87, e3, c1, if_true], a1, a3, a5, a6⟩
