/-! pure rows: loops, ranges -/
theorem loop_to {σ ρ : Type} {body : σ → Option (σ ⊕ ρ)} (I : Nat → σ → Prop) (Q : ρ → Prop) (N : Nat)
    (hs : ∀ i s, i < N → I i s → (∃ s', body s = some (.inl s') ∧ I (i + 1) s') ∨ (∃ r, body s = some (.inr r) ∧ Q r))
    (he : ∀ s, I N s → ∃ r, body s = some (.inr r) ∧ Q r) :
    ∀ (fu i : Nat) (s : σ), i ≤ N → I i s → N - i < fu → ∃ r, loopN body fu s = some r ∧ Q r := by
  intro fu
  induction fu with
  | zero => intro i s _ _ h; omega
  | succ fu ih =>
    intro i s hi hI hf
    have fin : (∃ r, body s = some (.inr r) ∧ Q r) → ∃ r, loopN body (fu + 1) s = some r ∧ Q r := by
      rintro ⟨r, h1, h2⟩
      exact ⟨r, by simp [loopN, h1], h2⟩
    by_cases hn : i = N
    · subst hn; exact fin (he s hI)
    · rcases hs i s (by omega) hI with ⟨s', h1, h2⟩ | h
      · obtain ⟨r, h3, h4⟩ := ih (i + 1) s' (by omega) h2 (by omega)
        exact ⟨r, by simp [loopN, h1, h3], h4⟩
      · exact fin h
theorem loop_f {σ ρ : Type} {body : σ → Option (σ ⊕ ρ)} (I : Nat → σ → Prop) (Q : ρ → Prop) (N : Nat) (hN : N < 100000) {s : σ} (h0 : I 0 s)
    (hs : ∀ i s, i < N → I i s → (∃ s', body s = some (.inl s') ∧ I (i + 1) s') ∨ (∃ r, body s = some (.inr r) ∧ Q r))
    (he : ∀ s, I N s → ∃ r, body s = some (.inr r) ∧ Q r) : ∃ r, loopN body fuelN s = some r ∧ Q r :=
  loop_to I Q N hs he fuelN 0 s (Nat.zero_le _) h0 (by unfold fuelN; omega)
theorem inb_nI {i n : Nat} (h : i < n) (hn : n < 2 ^ 31) : inb (nI i) n = true := by
  rw [inb_iff, nI_toInt (by omega)]; omega
theorem inb_of {x : Int32} {n : Nat} (h : inb x n = true) (hn : n < 2 ^ 31) : ∃ j : Nat, j < n ∧ x = nI j := vp_in_of (inb_in h) hn
theorem inb_neg {x : Int32} {n : Nat} (h : x < 0) : ¬ inb x n = true := by
  rw [inb_iff]; rw [Int32.lt_iff_toInt_lt] at h; have : (0 : Int32).toInt = 0 := rfl; omega
theorem inb_big {x : Int32} {n : Nat} (hn : n < 2 ^ 31) (h : nI n ≤ x) : ¬ inb x n = true := by
  rw [inb_iff]; rw [Int32.le_iff_toInt_le, nI_toInt hn] at h; omega
theorem toInt0 : (0 : Int32).toInt = 0 := rfl
theorem chk_eq (x : Int32) {n : Nat} (hn : n < 2 ^ 31) : (if x < 0 then some (0 : Int32) else (if nI n ≤ x then some (0 : Int32) else some (1 : Int32))) = some (if inb x n = true then 1 else 0) := by
  by_cases h1 : x < 0
  · rw [if_pos h1, if_neg (inb_neg h1)]
  · rw [if_neg h1]
    by_cases h2 : nI n ≤ x
    · rw [if_pos h2, if_neg (inb_big hn h2)]
    · rw [if_neg h2]
      have h3 : inb x n = true := by
        rw [inb_iff]; rw [Int32.lt_iff_toInt_lt, toInt0] at h1; rw [Int32.le_iff_toInt_le, nI_toInt hn] at h2; omega
      rw [if_pos h3]
theorem cmp_lt (x y : Int64) : lg_cmp x y < 0 ↔ x < y := by
  unfold lg_cmp
  by_cases h1 : y < x
  · simp [h1, Int64.not_lt.mpr (Int64.le_of_lt h1)]
  · by_cases h2 : x = y
    · subst h2; simp [h1]
    · have h3 : x < y := by
        rw [Int64.lt_iff_toInt_lt] at h1 ⊢
        have : x.toInt ≠ y.toInt := fun q => h2 (Int64.toInt_inj.mp q)
        omega
      simp [h1, h2, h3]
theorem cmp_gt (x y : Int64) : 0 < lg_cmp x y ↔ y < x := by
  unfold lg_cmp
  by_cases h1 : y < x
  · simp [h1]
  · by_cases h2 : x = y <;> simp [h1, h2]
theorem cmp_eq (x y : Int64) : lg_cmp x y = 0 ↔ x = y := by
  unfold lg_cmp
  by_cases h1 : y < x
  · have : ¬ x = y := fun q => by subst q; exact absurd h1 (Int64.lt_irrefl)
    simp [h1, this]
  · by_cases h2 : x = y <;> simp [h1, h2]
theorem in_eq (x : Int32) (lo hi : Int64) : fX6_in (Int32.toInt64 x) lo hi = some (if lo.toInt ≤ x.toInt ∧ x.toInt ≤ hi.toInt then 1 else 0) := by
  unfold fX6_in
  by_cases h1 : lg_cmp (Int32.toInt64 x) lo < 0
  · rw [if_pos h1]
    rw [cmp_lt, Int64.lt_iff_toInt_lt, Int32.toInt_toInt64] at h1
    rw [if_neg (by omega)]
  · rw [if_neg h1]
    rw [cmp_lt, Int64.lt_iff_toInt_lt, Int32.toInt_toInt64] at h1
    by_cases h2 : 0 < lg_cmp (Int32.toInt64 x) hi
    · rw [if_pos h2]
      rw [cmp_gt, Int64.lt_iff_toInt_lt, Int32.toInt_toInt64] at h2
      rw [if_neg (by omega)]
    · rw [if_neg h2]
      rw [cmp_gt, Int64.lt_iff_toInt_lt, Int32.toInt_toInt64] at h2
      rw [if_pos (by omega)]
/-- a range that begins with 0 -/
theorem in0_eq (x : Int32) (hi : Int64) (n : Nat) (hh : hi.toInt + 1 = (n : Int)) : fX6_in (Int32.toInt64 x) 0 hi = some (if inb x n = true then 1 else 0) := by
  rw [in_eq]
  have h0 : (0 : Int64).toInt = 0 := rfl
  by_cases h : inb x n = true
  · rw [if_pos h, if_pos]
    rw [inb_iff] at h; omega
  · rw [if_neg h, if_neg]
    rw [inb_iff] at h; omega
theorem nx_eq (x : Int32) (hi : Int64) (n : Nat) (hh : hi.toInt + 1 = (n : Int)) : (fX6_in (Int32.toInt64 x) 0 hi).bind (fun r => if r = 0 then some (1 : Int32) else some 0) = some (if inb x n = true then 0 else 1) := by
  rw [in0_eq x hi n hh]
  by_cases h : inb x n = true <;> simp [h]
theorem isUnit_eq {st : LG} {u : Nat} (h : LG_units st = nI u) (hu : u ≤ 10) (x : Int32) : fX5_isUnit st x = some (if inb x u = true then 1 else 0) := by
  unfold fX5_isUnit; rw [h]; exact chk_eq x (by omega)
theorem sub1_toInt {u : Nat} (h1 : 1 ≤ u) (hu : u < 2 ^ 30) : (Int32.toInt64 (nI u - 1)).toInt + 1 = (u : Int) := by
  rw [Int32.toInt_toInt64]
  have := pk_sub_toInt (a := u) (b := 1) hu (by omega)
  have e : nI 1 = (1 : Int32) := rfl
  rw [e] at this; rw [this]; omega
theorem noUnit_eq {st : MS} {u : Nat} (h : MS_units st = nI u) (h1 : 1 ≤ u) (hu : u ≤ 10) (x : Int32) : fX6_noUnit st x = some (if inb x u = true then 0 else 1) := by
  unfold fX6_noUnit; rw [h]; exact nx_eq x _ u (sub1_toInt h1 (by omega))
theorem isDay_eq (x : Int32) : fX5_isDay x = some (if inb x 3650 = true then 1 else 0) := chk_eq x (n := 3650) (by omega)
theorem isYear_eq (x : Int32) : fX5_isYear x = some (if inb x 10 = true then 1 else 0) := chk_eq x (n := 10) (by omega)
theorem isKind_eq (x : Int32) : fX5_isKind x = some (if inb x 4 = true then 1 else 0) := chk_eq x (n := 4) (by omega)
theorem noDay_eq (x : Int32) : fX6_noDay x = some (if inb x 3650 = true then 0 else 1) := nx_eq x 3649 3650 (by decide)
theorem noYear_eq (x : Int32) : fX6_noYear x = some (if inb x 10 = true then 0 else 1) := nx_eq x 9 10 (by decide)
theorem inKind_eq (x : Int32) : fX6_in (Int32.toInt64 x) 0 3 = some (if inb x 4 = true then 1 else 0) := in0_eq x 3 4 (by decide)
