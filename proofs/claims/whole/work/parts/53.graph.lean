/-! walks over ten units -/
def cntB (S : Nat → Bool) : Nat → Nat
  | 0 => 0
  | n + 1 => cntB S n + (if S n = true then 1 else 0)
theorem cntB_mono {S T : Nat → Bool} : ∀ n, (∀ i, i < n → S i = true → T i = true) → cntB S n ≤ cntB T n
  | 0, _ => Nat.le_refl _
  | n + 1, h => by
    have a := cntB_mono (S := S) (T := T) n (fun i hi => h i (by omega))
    have b := h n (by omega)
    show cntB S n + (if S n = true then 1 else 0) ≤ cntB T n + (if T n = true then 1 else 0)
    by_cases c : S n = true
    · rw [if_pos c, if_pos (b c)]; omega
    · rw [if_neg c]; omega
theorem cntB_lt {S T : Nat → Bool} : ∀ n, (∀ i, i < n → S i = true → T i = true) → (∃ j, j < n ∧ ¬ S j = true ∧ T j = true) → cntB S n < cntB T n
  | 0, _, ⟨j, hj, _⟩ => by omega
  | n + 1, h, ⟨j, hj, h1, h2⟩ => by
    show cntB S n + (if S n = true then 1 else 0) < cntB T n + (if T n = true then 1 else 0)
    by_cases g : j = n
    · subst g
      have a := cntB_mono (S := S) (T := T) j (fun i hi => h i (by omega))
      rw [if_neg h1, if_pos h2]; omega
    · have a := cntB_lt (S := S) (T := T) n (fun i hi => h i (by omega)) ⟨j, by omega, h1, h2⟩
      have b := h n (by omega)
      by_cases c : S n = true
      · rw [if_pos c, if_pos (b c)]; omega
      · rw [if_neg c]; omega
theorem cntB_all : ∀ n, cntB (fun _ => true) n = n
  | 0 => rfl
  | n + 1 => by
    show cntB (fun _ => true) n + (if true = true then 1 else 0) = n + 1
    rw [cntB_all n, if_pos rfl]
theorem cntB_none : ∀ n, cntB (fun _ => false) n = 0
  | 0 => rfl
  | n + 1 => by
    show cntB (fun _ => false) n + (if false = true then 1 else 0) = 0
    rw [cntB_none n, if_neg Bool.false_ne_true]
theorem exB (P : Nat → Prop) : ∃ S : Nat → Bool, ∀ i, S i = true ↔ P i :=
  ⟨fun i => @decide (P i) (Classical.propDecidable _), fun _ => @decide_eq_true_iff _ (Classical.propDecidable _)⟩
def Wk (E : Nat → Nat → Prop) : Nat → Nat → Nat → Prop
  | 0, a, b => a = b
  | k + 1, a, b => ∃ c, Wk E k a c ∧ E c b
theorem Wk_app {E : Nat → Nat → Prop} {k a b : Nat} (h : Wk E k a b) : ∀ l c, Wk E l b c → Wk E (k + l) a c
  | 0, c, g => by
    have : b = c := g
    subst this; exact h
  | l + 1, c, ⟨d, g1, g2⟩ => ⟨d, Wk_app h l d g1, g2⟩
theorem Wk_pre {E : Nat → Nat → Prop} {m a : Nat} : ∀ r c, Wk E (m + r) a c → ∃ b, Wk E m a b
  | 0, c, h => ⟨c, h⟩
  | r + 1, _, ⟨d, h1, _⟩ => Wk_pre r d h1
theorem Wk_rank {E : Nat → Nat → Prop} {rk : Nat → Nat} (h : ∀ a b, E a b → rk a < rk b) {a : Nat} : ∀ k b, Wk E k a b → rk a + k ≤ rk b
  | 0, b, g => by
    have : a = b := g
    subst this; omega
  | k + 1, b, ⟨c, g1, g2⟩ => by
    have x := Wk_rank h k c g1
    have y := h c b g2
    omega
theorem Wk_long {E : Nat → Nat → Prop} {p q k : Nat} (h : Wk E k q p) (e : E p q) (m : Nat) : ∃ b, Wk E m p b := by
  have loop : ∀ j, ∃ L, j ≤ L ∧ Wk E L p p := by
    intro j
    induction j with
    | zero => exact ⟨0, Nat.le_refl _, rfl⟩
    | succ j ih =>
      obtain ⟨L, h1, h2⟩ := ih
      have one : Wk E 1 p q := ⟨p, rfl, e⟩
      exact ⟨L + (1 + k), by omega, Wk_app h2 (1 + k) p (Wk_app one k p h)⟩
  obtain ⟨L, h1, h2⟩ := loop m
  have e : L = m + (L - m) := by omega
  rw [e] at h2
  exact Wk_pre _ _ h2
theorem reach_closed {E : Nat → Nat → Prop} (hb : ∀ a b, E a b → b < 10) {x y : Nat} (hx : x < 10) (hy : y < 10) (hno : ¬ ∃ k, k ≤ 9 ∧ Wk E k x y) : ∃ S : Nat → Bool, S x = true ∧ ¬ S y = true ∧ ∀ a b, S a = true → E a b → S b = true := by
  have ex : ∃ R : Nat → Nat → Bool, ∀ j b, R j b = true ↔ ∃ k, k ≤ j ∧ Wk E k x b :=
    ⟨fun j b => @decide (∃ k, k ≤ j ∧ Wk E k x b) (Classical.propDecidable _), fun _ _ => @decide_eq_true_iff _ (Classical.propDecidable _)⟩
  obtain ⟨R, hR⟩ := ex
  have step : ∀ j, (∃ i, i < j ∧ ∀ b, b < 10 → R (i + 1) b = true → R i b = true) ∨ j + 1 ≤ cntB (R j) 10 := by
    intro j
    induction j with
    | zero =>
      right
      have := cntB_lt (S := fun _ => false) (T := R 0) 10 (fun i _ h => by cases h) ⟨x, hx, Bool.false_ne_true, (hR 0 x).mpr ⟨0, Nat.le_refl _, rfl⟩⟩
      rw [cntB_none] at this; omega
    | succ j ih =>
      rcases ih with ⟨i, h1, h2⟩ | h
      · exact Or.inl ⟨i, by omega, h2⟩
      · by_cases g : ∀ b, b < 10 → R (j + 1) b = true → R j b = true
        · exact Or.inl ⟨j, by omega, g⟩
        · right
          obtain ⟨b, hb'⟩ := Classical.not_forall.mp g
          obtain ⟨b1, hb2⟩ := Classical.not_imp.mp hb'
          obtain ⟨b2, b3⟩ := Classical.not_imp.mp hb2
          have := cntB_lt (S := R j) (T := R (j + 1)) 10 (fun i _ h => by
            obtain ⟨k, k1, k2⟩ := (hR j i).mp h
            exact (hR (j + 1) i).mpr ⟨k, by omega, k2⟩) ⟨b, b1, b3, b2⟩
          omega
  rcases step 9 with ⟨i, h1, h2⟩ | h
  · refine ⟨R i, (hR i x).mpr ⟨0, Nat.zero_le _, rfl⟩, fun w => ?_, fun a b ha e => ?_⟩
    · obtain ⟨k, k1, k2⟩ := (hR i y).mp w
      exact hno ⟨k, by omega, k2⟩
    · obtain ⟨k, k1, k2⟩ := (hR i a).mp ha
      exact h2 b (hb a b e) ((hR (i + 1) b).mpr ⟨k + 1, by omega, a, k2, e⟩)
  · exfalso
    apply hno
    apply Classical.byContradiction
    intro w
    have := cntB_lt (S := R 9) (T := fun _ => true) 10 (fun _ _ _ => rfl) ⟨y, hy, fun q => w ((hR 9 y).mp q), rfl⟩
    rw [cntB_all] at this; omega
theorem newRank {E0 E : Nat → Nat → Prop} {rk : Nat → Nat} (h0 : ∀ a b, E0 a b → rk a < rk b) {p q : Nat} (hp : p < 10) (hq : q < 10) (hE : ∀ a b, E a b → E0 a b ∨ (a = p ∧ b = q)) (hb : ∀ a b, E a b → a < 10 ∧ b < 10) (hno : ¬ ∃ k, k ≤ 9 ∧ Wk E k q p) : ∃ r : Nat → Nat, (∀ a b, E a b → r a < r b) ∧ ∀ a, a < 10 → r a ≤ 9 := by
  obtain ⟨S, s1, s2, s3⟩ := reach_closed (fun a b e => (hb a b e).2) hq hp hno
  obtain ⟨r1, hr1⟩ : ∃ r1 : Nat → Nat, ∀ a, r1 a = rk a + (if S a = true then rk p + 1 else 0) := ⟨_, fun _ => rfl⟩
  have m : ∀ a b, E a b → r1 a < r1 b := by
    intro a b e
    rw [hr1, hr1]
    rcases hE a b e with w | ⟨rfl, rfl⟩
    · have := h0 a b w
      by_cases g : S a = true
      · rw [if_pos g, if_pos (s3 a b g e)]; omega
      · rw [if_neg g]; omega
    · rw [if_neg s2, if_pos s1]; omega
  refine ⟨fun a => cntB (fun c => decide (r1 c < r1 a)) 10, fun a b e => ?_, fun a ha => ?_⟩
  · have := m a b e
    refine cntB_lt 10 (fun i _ h => ?_) ⟨a, (hb a b e).1, ?_, ?_⟩
    · rw [decide_eq_true_iff] at h ⊢; omega
    · rw [decide_eq_true_iff]; omega
    · rw [decide_eq_true_iff]; exact this
  · have := cntB_lt (S := fun c => decide (r1 c < r1 a)) (T := fun _ => true) 10 (fun _ _ _ => rfl) ⟨a, ha, by rw [decide_eq_true_iff]; omega, rfl⟩
    rw [cntB_all] at this
    show cntB (fun c => decide (r1 c < r1 a)) 10 ≤ 9
    omega
/-! bits -/
def bI (x : Int32) (i : Nat) : Bool := x.toBitVec.getLsbD i
theorem bI_or (x y : Int32) (i : Nat) : bI (x ||| y) i = (bI x i || bI y i) := by
  simp only [bI, Int32.toBitVec_or, BitVec.getLsbD_or]
theorem bI_and (x y : Int32) (i : Nat) : bI (x &&& y) i = (bI x i && bI y i) := by
  simp only [bI, Int32.toBitVec_and, BitVec.getLsbD_and]
theorem bI_0 (i : Nat) : bI 0 i = false := BitVec.getLsbD_zero
theorem bI_ext {x y : Int32} (h : ∀ i, i < 32 → bI x i = bI y i) : x = y := by
  apply Int32.toBitVec_inj.mp
  exact BitVec.eq_of_getLsbD_eq h
theorem bI_one : ∀ l, l < 10 → ∀ i, i < 32 → bI ((1 : Int32) <<< (nI l &&& 31)) i = decide (i = l) := by decide +kernel
theorem bI_test {x : Int32} {l : Nat} (hl : l < 10) : (x &&& ((1 : Int32) <<< (nI l &&& 31))) = 0 ↔ bI x l = false := by
  constructor
  · intro h
    have a : bI (x &&& ((1 : Int32) <<< (nI l &&& 31))) l = false := by rw [h]; exact bI_0 l
    rw [bI_and, bI_one l hl l (by omega)] at a
    simpa using a
  · intro h
    apply bI_ext
    intro i hi
    rw [bI_and, bI_one l hl i hi, bI_0]
    by_cases w : i = l
    · subst w; rw [h]; rfl
    · rw [decide_eq_false w, Bool.and_false]
