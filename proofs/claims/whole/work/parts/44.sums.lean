/-! sums; the share is one -/
theorem sum10_congr {f g : Nat → Nat} : ∀ n, (∀ i, i < n → f i = g i) → sum10 f n = sum10 g n
  | 0, _ => rfl
  | n + 1, h => by
    show sum10 f n + f n = sum10 g n + g n
    rw [sum10_congr n (fun i hi => h i (by omega)), h n (by omega)]
theorem sum10_add (f g : Nat → Nat) : ∀ n, sum10 (fun i => f i + g i) n = sum10 f n + sum10 g n
  | 0 => rfl
  | n + 1 => by
    show sum10 (fun i => f i + g i) n + (f n + g n) = (sum10 f n + f n) + (sum10 g n + g n)
    rw [sum10_add f g n]; omega
theorem sum10_mul (c : Nat) (f : Nat → Nat) : ∀ n, sum10 (fun i => c * f i) n = c * sum10 f n
  | 0 => rfl
  | n + 1 => by
    show sum10 (fun i => c * f i) n + c * f n = c * (sum10 f n + f n)
    rw [sum10_mul c f n, Nat.mul_add]
theorem sum10_mulr (f : Nat → Nat) (c : Nat) : ∀ n, sum10 (fun i => f i * c) n = sum10 f n * c
  | 0 => by show 0 = 0 * c; rw [Nat.zero_mul]
  | n + 1 => by
    show sum10 (fun i => f i * c) n + f n * c = (sum10 f n + f n) * c
    rw [sum10_mulr f c n, Nat.add_mul]
theorem sum10_0 : ∀ n, sum10 (fun _ => 0) n = 0
  | 0 => rfl
  | n + 1 => sum10_0 n
theorem sum10_first (f : Nat → Nat) : ∀ n, sum10 f (n + 1) = f 0 + sum10 (fun i => f (1 + i)) n
  | 0 => by show 0 + f 0 = f 0 + 0; omega
  | n + 1 => by
    show sum10 f (n + 1) + f (n + 1) = f 0 + (sum10 (fun i => f (1 + i)) n + f (1 + n))
    rw [sum10_first f n, Nat.add_comm n 1]; omega
theorem sum10_swap (f : Nat → Nat → Nat) (m : Nat) : ∀ n, sum10 (fun b => sum10 (fun a => f a b) m) n = sum10 (fun a => sum10 (fun b => f a b) n) m
  | 0 => (sum10_0 m).symm
  | n + 1 => by
    show sum10 (fun b => sum10 (fun a => f a b) m) n + sum10 (fun a => f a n) m = sum10 (fun a => sum10 (fun b => f a b) n + f a n) m
    rw [sum10_swap f m n, sum10_add]
theorem sum10_zero {f : Nat → Nat} (n : Nat) (h : ∀ i, i < n → f i = 0) : sum10 f n = 0 := by
  rw [sum10_congr n (g := fun _ => 0) h, sum10_0]
theorem shM_eq {X : Nat → Nat → Nat} (h0 : X 0 0 = 0) (h1 : ∀ a, X 0 a * X a 0 = 0) (u : Nat) : shM X u = shrN X u := by
  unfold shM shrN
  by_cases g : u = 0
  · rw [if_pos g, if_pos g]
  · rw [if_neg g, if_neg g, sum10_add]
    have e1 : 100 * sum10 (fun a => X 0 a * X a u) 10 = sum10 (fun a => 100 * X 0 (1 + a) * X (1 + a) u) 9 := by
      rw [sum10_first _ 9, h0, Nat.zero_mul, Nat.zero_add, ← sum10_mul]
      exact sum10_congr 9 (fun i _ => by rw [Nat.mul_assoc])
    have e2 : sum10 (fun b => sum10 (fun a => X 0 a * X a b) 10 * X b u) 10 = sum10 (fun a => sum10 (fun b => X 0 (1 + a) * X (1 + a) (1 + b) * X (1 + b) u) 9) 9 := by
      rw [sum10_first _ 9, sum10_zero (f := fun a => X 0 a * X a 0) 10 (fun i _ => h1 i), Nat.zero_mul, Nat.zero_add, ← sum10_swap]
      refine sum10_congr 9 (fun b _ => ?_)
      rw [sum10_first _ 9, h0, Nat.zero_mul, Nat.zero_add, ← sum10_mulr]
    rw [e1, e2]
theorem matN_le {C : Nat → Ent} {n : Nat} (h : ∀ i, i < n → (C i).2.2.1 ≤ 100) : ∀ s, s ≤ n → ∀ a b, matN C s a b ≤ 100
  | 0, _, _, _ => Nat.zero_le _
  | s + 1, hs, a, b => by
    show (if (C s).1 = a ∧ (C s).2.1 = b then (C s).2.2.1 else matN C s a b) ≤ 100
    split
    · exact h s (by omega)
    · exact matN_le h s (by omega) a b
theorem matN_pos {C : Nat → Ent} : ∀ s a b, 0 < matN C s a b → ∃ i, i < s ∧ (C i).1 = a ∧ (C i).2.1 = b ∧ 0 < (C i).2.2.1
  | 0, _, _, h => absurd h (Nat.lt_irrefl _)
  | s + 1, a, b, h => by
    have m : matN C (s + 1) a b = if (C s).1 = a ∧ (C s).2.1 = b then (C s).2.2.1 else matN C s a b := rfl
    rw [m] at h
    by_cases g : (C s).1 = a ∧ (C s).2.1 = b
    · rw [if_pos g] at h; exact ⟨s, by omega, g.1, g.2, h⟩
    · rw [if_neg g] at h
      obtain ⟨i, h1, h2⟩ := matN_pos s a b h
      exact ⟨i, by omega, h2⟩
theorem matN_rk {C : Nat → Ent} {n : Nat} {rk : Nat → Nat} (hr : ∀ i, i < n → 0 < (C i).2.2.1 → rk (C i).1 < rk (C i).2.1) {s : Nat} (hs : s ≤ n) {a b : Nat} (h : 0 < matN C s a b) : rk a < rk b := by
  obtain ⟨i, h1, h2, h3, h4⟩ := matN_pos s a b h
  rw [← h2, ← h3]; exact hr i (by omega) h4
theorem matN_00 {C : Nat → Ent} {n : Nat} {rk : Nat → Nat} (hr : ∀ i, i < n → 0 < (C i).2.2.1 → rk (C i).1 < rk (C i).2.1) {s : Nat} (hs : s ≤ n) (a : Nat) : matN C s a a = 0 := by
  rcases Nat.eq_zero_or_pos (matN C s a a) with h | h
  · exact h
  · have := matN_rk hr hs h; omega
theorem matN_2 {C : Nat → Ent} {n : Nat} {rk : Nat → Nat} (hr : ∀ i, i < n → 0 < (C i).2.2.1 → rk (C i).1 < rk (C i).2.1) {s : Nat} (hs : s ≤ n) (a b : Nat) : matN C s a b * matN C s b a = 0 := by
  rcases Nat.eq_zero_or_pos (matN C s a b) with h | h
  · rw [h, Nat.zero_mul]
  · rcases Nat.eq_zero_or_pos (matN C s b a) with g | g
    · rw [g, Nat.mul_zero]
    · have h1 := matN_rk hr hs h
      have h2 := matN_rk hr hs g
      omega
theorem matN_3 {C : Nat → Ent} {n : Nat} {rk : Nat → Nat} (hr : ∀ i, i < n → 0 < (C i).2.2.1 → rk (C i).1 < rk (C i).2.1) {s : Nat} (hs : s ≤ n) (a b c : Nat) : matN C s a b * matN C s b c * matN C s c a = 0 := by
  rcases Nat.eq_zero_or_pos (matN C s a b) with h | h
  · rw [h, Nat.zero_mul, Nat.zero_mul]
  · rcases Nat.eq_zero_or_pos (matN C s b c) with g | g
    · rw [g, Nat.mul_zero, Nat.zero_mul]
    · rcases Nat.eq_zero_or_pos (matN C s c a) with f | f
      · rw [f, Nat.mul_zero]
      · have h1 := matN_rk hr hs h
        have h2 := matN_rk hr hs g
        have h3 := matN_rk hr hs f
        omega
/-- the reference's shares of a day -/
theorem sharesM {u n d : Nat} {C M : Nat → Ent} {H : HS} {m : MS} (hC : HoldC n C H) (hM : HoldM n M m) (hE : EntRel u n C M) (hu : u ≤ 10) (hd : d < 3650) : ∃ s T, s ≤ n ∧ fX1_spanOn H (nI d) = some (nI s) ∧ fX6_shares m (nI d) = some T ∧ FrA T m ∧ (∀ v, v < 10 → MS_share T v = lN (shrN (matN C s) v)) ∧ (∀ i, i < s → (C i).2.2.2 ≤ d) ∧ (∀ i, s ≤ i → i < n → d < (C i).2.2.2) := by
  obtain ⟨s, T, s1, s2, s3, s4, s5, s6, s7⟩ := day_ex hC hM hE hu hd
  have bC := (entB hE hu).1
  obtain ⟨rk, hrk⟩ := hE.2.2.2.2.2.2.2
  have hX : HeldIs (matN C s) T := ⟨matN_le (n := n) (fun i hi => (bC i hi).2.2.2.1) s s1, s5⟩
  obtain ⟨y, y1, y2, y3⟩ := sh_out hX
  refine ⟨s, y.1, s1, s2, ?_, FrA_tr y2 s4, fun v hv => ?_, s6, s7⟩
  · simp only [fX6_shares, s3, Option.bind_some, y1]
  · rw [y3 v hv, shM_eq (matN_00 hrk s1 0) (fun a => matN_2 hrk s1 0 a)]
