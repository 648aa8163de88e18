/-! the ledger: may a holding be -/
def EdC (n : Nat) (C : Nat → Ent) (a b : Nat) : Prop := ∃ i, i < n ∧ (C i).1 = a ∧ (C i).2.1 = b ∧ 0 < (C i).2.2.1
def EdN (n : Nat) (C : Nat → Ent) (p q a b : Nat) : Prop := EdC n C a b ∨ (a = p ∧ b = q)
theorem EdC_succ {i : Nat} {C : Nat → Ent} {a b : Nat} : EdC (i + 1) C a b ↔ EdC i C a b ∨ ((C i).1 = a ∧ (C i).2.1 = b ∧ 0 < (C i).2.2.1) := by
  constructor
  · rintro ⟨j, h1, h2⟩
    by_cases w : j = i
    · subst w; exact Or.inr h2
    · exact Or.inl ⟨j, by omega, h2⟩
  · rintro (⟨j, h1, h2⟩ | h)
    · exact ⟨j, by omega, h2⟩
    · exact ⟨i, by omega, h⟩
def TiesIs (H : HS) (E : Nat → Nat → Prop) : Prop := ∀ a, a < 10 → ∀ j, j < 32 → (bI (HS_tied H a) j = true ↔ E a j)
theorem gather_eq {H : HS} {n : Nat} {C : Nat → Ent} (hC : HoldC n C H) (hn : n ≤ 100) (hb : ∀ i, i < n → (C i).1 < 10 ∧ (C i).2.1 < 10 ∧ (C i).2.2.1 ≤ 100) : ∃ T, fX1_gatherTies H = some T ∧ FrH T H ∧ HS_spanShares T = HS_spanShares H ∧ HS_spanIsMade T = HS_spanIsMade H ∧ TiesIs T (EdC n C) := by
  obtain ⟨g, g1, g2⟩ := fillI 10 (HS_tied H) 0 (by omega)
  have key : ∃ y, loopN (fun (s : HS × Int32) => fX1_gatherTies_l10 s.1 s.2) fuelN (HS_tied_s H g, (0 : Int32)) = some y ∧ FrH y.1 H ∧ HS_spanShares y.1 = HS_spanShares H ∧ HS_spanIsMade y.1 = HS_spanIsMade H ∧ TiesIs y.1 (EdC n C) := by
    refine loop_f (fun (i : Nat) (s : HS × Int32) => FrH s.1 H ∧ HS_spanShares s.1 = HS_spanShares H ∧ HS_spanIsMade s.1 = HS_spanIsMade H ∧ TiesIs s.1 (EdC i C) ∧ s.2 = nI i) _ n (by omega) ⟨FrH_rf H, rfl, rfl, fun a ha j hj => ?_, zero_nI⟩ ?_ ?_
    · have e : HS_tied (HS_tied_s H g) a = 0 := g2 a ha
      rw [e, bI_0]
      exact ⟨fun h => absurd h Bool.false_ne_true, fun ⟨i, hi, _⟩ => by omega⟩
    · rintro i ⟨T, y⟩ hi ⟨a1, a2, a3, a4, a5⟩
      simp only at a1 a2 a3 a4 a5
      subst a5
      left
      obtain ⟨v1, v2, v3, v4⟩ := (HoldC_fr hC a1).2 i hi
      obtain ⟨b1, b2, b3⟩ := hb i hi
      have sz : HS_size T = nI n := (HoldC_fr hC a1).1
      have c1 : ¬ nI n ≤ nI i := by rw [nI_leI (by omega) (by omega)]; omega
      have c2 : inb (nI i) 100 = true := inb_nI (by omega) (by omega)
      have c3 : (nI i).toNatClampNeg = i := nI_clamp (by omega)
      by_cases g0 : (C i).2.2.1 = 0
      · have q : nI 0 ≤ 0 := by decide
        refine ⟨(T, nI (i + 1)), by simp only [fX1_gatherTies_l10, fX1_gatherTies_b49, sz, c1, c2, c3, v3, g0, q, if_true, if_false, nI_1], a1, a2, a3, fun a ha j hj => ?_, rfl⟩
        rw [EdC_succ]
        constructor
        · intro h; exact Or.inl ((a4 a ha j hj).mp h)
        · rintro (h | h)
          · exact (a4 a ha j hj).mpr h
          · omega
      · have q : ¬ nI (C i).2.2.1 ≤ 0 := nI_nle (by omega) (by omega)
        have c4 : inb (nI (C i).1) 10 = true := inb_nI b1 (by omega)
        have c5 : (nI (C i).1).toNatClampNeg = (C i).1 := nI_clamp (by omega)
        refine ⟨(HS_tied_s T (upd (HS_tied T) (C i).1 (HS_tied T (C i).1 ||| ((1 : Int32) <<< (nI (C i).2.1 &&& 31)))), nI (i + 1)), by simp only [fX1_gatherTies_l10, fX1_gatherTies_b49, sz, c1, c2, c3, v1, v2, v3, q, c4, c5, if_true, if_false, nI_1], a1, a2, a3, fun a ha j hj => ?_, rfl⟩
        show bI (HS_tied (HS_tied_s T _) a) j = true ↔ _
        rw [HS_tied_tied, EdC_succ]
        by_cases w : a = (C i).1
        · subst w
          rw [upd_s, bI_or, bI_one _ b2 j hj, Bool.or_eq_true, a4 _ ha j hj, decide_eq_true_iff]
          constructor
          · rintro (h | h)
            · exact Or.inl h
            · exact Or.inr ⟨rfl, h.symm, by omega⟩
          · rintro (h | ⟨-, h, -⟩)
            · exact Or.inl h
            · exact Or.inr h.symm
        · rw [upd_n _ _ w, a4 a ha j hj]
          constructor
          · exact Or.inl
          · rintro (h | ⟨h, -, -⟩)
            · exact h
            · exact absurd h.symm w
    · rintro ⟨T, y⟩ ⟨a1, a2, a3, a4, a5⟩
      simp only at a1 a2 a3 a4 a5
      subst a5
      have sz : HS_size T = nI n := (HoldC_fr hC a1).1
      have c1 : nI n ≤ nI n := Int32.le_refl _
      exact ⟨(T, nI n), by simp only [fX1_gatherTies_l10, sz, c1, if_true], a1, a2, a3, a4⟩
  obtain ⟨y, k1, k2⟩ := key
  exact ⟨y.1, by simp only [fX1_gatherTies, g1, Option.bind_some, k1], k2⟩
theorem tAny {H : HS} {E : Nat → Nat → Prop} (hT : TiesIs H E) (x : Int32) : ∃ r, fX1_tiedToAnyOf H x = some r ∧ ∀ j, j < 32 → (bI r j = true ↔ ∃ a, a < 10 ∧ bI x a = true ∧ E a j) := by
  have key : ∃ y, loopN (fun (s : Int32 × Int32) => fX1_tiedToAnyOf_l4 H x s.1 s.2) fuelN ((0 : Int32), (0 : Int32)) = some y ∧ ∀ j, j < 32 → (bI y.1 j = true ↔ ∃ a, a < 10 ∧ bI x a = true ∧ E a j) := by
    refine loop_f (fun (i : Nat) (s : Int32 × Int32) => (∀ j, j < 32 → (bI s.1 j = true ↔ ∃ a, a < i ∧ bI x a = true ∧ E a j)) ∧ s.2 = nI i) _ 10 (by omega) ⟨fun j hj => ?_, zero_nI⟩ ?_ ?_
    · show bI 0 j = true ↔ _
      rw [bI_0]
      exact ⟨fun h => absurd h Bool.false_ne_true, fun ⟨i, hi, _⟩ => by omega⟩
    · rintro i ⟨r, y⟩ hi ⟨a1, a2⟩
      simp only at a1 a2
      subst a2
      left
      have c1 : ¬ nI 10 ≤ nI i := by rw [nI_leI (by omega) (by omega)]; omega
      have c2 : inb (nI i) 10 = true := inb_nI hi (by omega)
      have c3 : (nI i).toNatClampNeg = i := nI_clamp (by omega)
      by_cases g : bI x i = true
      · have q : ¬ (x &&& ((1 : Int32) <<< (nI i &&& 31))) = 0 := by rw [bI_test hi, g]; exact Bool.noConfusion
        refine ⟨(r ||| HS_tied H i, nI (i + 1)), by simp only [fX1_tiedToAnyOf_l4, fX1_tiedToAnyOf_b27, ten_nI, c1, c2, c3, q, if_true, if_false, nI_1], fun j hj => ?_, rfl⟩
        show bI (r ||| HS_tied H i) j = true ↔ _
        rw [bI_or, Bool.or_eq_true, a1 j hj, hT i hi j hj]
        constructor
        · rintro (⟨a, h1, h2⟩ | h)
          · exact ⟨a, by omega, h2⟩
          · exact ⟨i, by omega, g, h⟩
        · rintro ⟨a, h1, h2, h3⟩
          by_cases w : a = i
          · subst w; exact Or.inr h3
          · exact Or.inl ⟨a, by omega, h2, h3⟩
      · have q : (x &&& ((1 : Int32) <<< (nI i &&& 31))) = 0 := by rw [bI_test hi]; exact Bool.eq_false_iff.mpr g
        refine ⟨(r, nI (i + 1)), by simp only [fX1_tiedToAnyOf_l4, fX1_tiedToAnyOf_b27, ten_nI, c1, q, if_true, if_false, nI_1], fun j hj => ?_, rfl⟩
        show bI r j = true ↔ _
        rw [a1 j hj]
        constructor
        · rintro ⟨a, h1, h2⟩
          exact ⟨a, by omega, h2⟩
        · rintro ⟨a, h1, h2, h3⟩
          by_cases w : a = i
          · subst w; exact absurd h2 g
          · exact ⟨a, by omega, h2, h3⟩
    · rintro ⟨r, y⟩ ⟨a1, a2⟩
      simp only at a1 a2
      subst a2
      have c1 : nI 10 ≤ nI 10 := Int32.le_refl _
      exact ⟨(r, nI 10), by simp only [fX1_tiedToAnyOf_l4, ten_nI, c1, if_true], a1⟩
  obtain ⟨y, k1, k2⟩ := key
  exact ⟨y.1, by simp only [fX1_tiedToAnyOf, k1, Option.bind_some], k2⟩
theorem Wk_b {E : Nat → Nat → Prop} (hb : ∀ a b, E a b → b < 10) {x : Nat} (hx : x < 10) : ∀ k a, Wk E k x a → a < 10
  | 0, a, h => by
    have : x = a := h
    subst this; exact hx
  | _ + 1, a, ⟨c, _, e⟩ => hb c a e
theorem tiedTo_eq {H : HS} {E : Nat → Nat → Prop} (hT : TiesIs H E) (hb : ∀ a b, E a b → b < 10) {x y : Nat} (hx : x < 10) (hy : y < 10) : ∃ r, fX1_isTiedTo H (nI x) (nI y) = some r ∧ ((r = 1 ∧ ∃ k, k ≤ 9 ∧ Wk E k x y) ∨ (r = 0 ∧ ¬ ∃ k, k ≤ 9 ∧ Wk E k x y)) := by
  have key : ∃ w, loopN (fun (s : Int32 × Int32) => fX1_isTiedTo_l7 H (nI y) s.1 s.2) fuelN ((1 : Int32) <<< (nI x &&& 31), (1 : Int32)) = some w ∧ ∀ j, j < 32 → (bI w.1 j = true ↔ ∃ k, k ≤ 9 ∧ Wk E k x j) := by
    refine loop_f (fun (i : Nat) (s : Int32 × Int32) => (∀ j, j < 32 → (bI s.1 j = true ↔ ∃ k, k ≤ i ∧ Wk E k x j)) ∧ s.2 = nI (1 + i)) _ 9 (by omega) ⟨fun j hj => ?_, rfl⟩ ?_ ?_
    · show bI ((1 : Int32) <<< (nI x &&& 31)) j = true ↔ _
      rw [bI_one x hx j hj, decide_eq_true_iff]
      constructor
      · intro h; exact ⟨0, Nat.le_refl _, h.symm⟩
      · rintro ⟨k, k1, k2⟩
        have : k = 0 := by omega
        subst this
        exact (show x = j from k2).symm
    · rintro i ⟨m, z⟩ hi ⟨a1, a2⟩
      simp only at a1 a2
      subst a2
      left
      have c1 : ¬ nI 10 ≤ nI (1 + i) := by rw [nI_leI (by omega) (by omega)]; omega
      obtain ⟨r, r1, r2⟩ := tAny hT m
      have e1 : nI (1 + i) + 1 = nI (1 + (i + 1)) := nI_1 _
      refine ⟨(m ||| r, nI (1 + (i + 1))), by simp only [fX1_isTiedTo_l7, ten_nI, c1, r1, Option.bind_some, if_false, e1], fun j hj => ?_, rfl⟩
      show bI (m ||| r) j = true ↔ _
      rw [bI_or, Bool.or_eq_true, a1 j hj, r2 j hj]
      constructor
      · rintro (⟨k, k1, k2⟩ | ⟨a, h1, h2, h3⟩)
        · exact ⟨k, by omega, k2⟩
        · obtain ⟨k, k1, k2⟩ := (a1 a (by omega)).mp h2
          exact ⟨k + 1, by omega, a, k2, h3⟩
      · rintro ⟨k, k1, k2⟩
        cases k with
        | zero => exact Or.inl ⟨0, by omega, k2⟩
        | succ k =>
          obtain ⟨c, h1, h2⟩ := k2
          have hc := Wk_b hb hx k c h1
          exact Or.inr ⟨c, hc, (a1 c (by omega)).mpr ⟨k, by omega, h1⟩, h2⟩
    · rintro ⟨m, z⟩ ⟨a1, a2⟩
      simp only at a1 a2
      subst a2
      have c1 : nI 10 ≤ nI (1 + 9) := by decide
      exact ⟨(m, nI (1 + 9)), by simp only [fX1_isTiedTo_l7, ten_nI, c1, if_true], a1⟩
  obtain ⟨w, k1, k2⟩ := key
  have k3 := k2 y (by omega)
  by_cases g : bI w.1 y = true
  · have q : ¬ (w.1 &&& ((1 : Int32) <<< (nI y &&& 31))) = 0 := by rw [bI_test hy, g]; exact Bool.noConfusion
    exact ⟨1, by simp only [fX1_isTiedTo, k1, Option.bind_some, q, if_false], Or.inl ⟨rfl, k3.mp g⟩⟩
  · have q : (w.1 &&& ((1 : Int32) <<< (nI y &&& 31))) = 0 := by rw [bI_test hy]; exact Bool.eq_false_iff.mpr g
    exact ⟨0, by simp only [fX1_isTiedTo, k1, Option.bind_some, q, if_true], Or.inr ⟨rfl, fun h => g (k3.mpr h)⟩⟩
theorem bI_1 : ∀ j, j < 32 → bI 1 j = decide (j = 0) := by decide +kernel
theorem deep_eq {H : HS} {E : Nat → Nat → Prop} (hT : TiesIs H E) (hb : ∀ a b, E a b → b < 10) : ∃ r, fX1_isTooDeep H = some r ∧ ((r = 1 ∧ ∃ b, Wk E 4 0 b) ∨ (r = 0 ∧ ¬ ∃ b, Wk E 4 0 b)) := by
  have e3 : (3 : Int32) = nI 3 := rfl
  have key : ∃ w, loopN (fun (s : Int32 × Int32) => fX1_isTooDeep_l4 H s.1 s.2) fuelN ((1 : Int32), (0 : Int32)) = some w ∧ ∀ j, j < 32 → (bI w.1 j = true ↔ Wk E 4 0 j) := by
    refine loop_f (fun (i : Nat) (s : Int32 × Int32) => (∀ j, j < 32 → (bI s.1 j = true ↔ Wk E i 0 j)) ∧ s.2 = nI i) _ 4 (by omega) ⟨fun j hj => ?_, rfl⟩ ?_ ?_
    · show bI 1 j = true ↔ _
      rw [bI_1 j hj, decide_eq_true_iff]
      exact ⟨fun h => h.symm, fun h => (show 0 = j from h).symm⟩
    · rintro i ⟨m, z⟩ hi ⟨a1, a2⟩
      simp only at a1 a2
      subst a2
      left
      have c1 : ¬ nI 3 < nI i := by rw [nI_ltI (by omega) (by omega)]; omega
      obtain ⟨r, r1, r2⟩ := tAny hT m
      refine ⟨(r, nI (i + 1)), by simp only [fX1_isTooDeep_l4, e3, c1, r1, Option.bind_some, if_false, nI_1], fun j hj => ?_, rfl⟩
      show bI r j = true ↔ _
      rw [r2 j hj]
      constructor
      · rintro ⟨a, h1, h2, h3⟩
        exact ⟨a, (a1 a (by omega)).mp h2, h3⟩
      · rintro ⟨c, h1, h2⟩
        have hc := Wk_b hb (by omega : 0 < 10) i c h1
        exact ⟨c, hc, (a1 c (by omega)).mpr h1, h2⟩
    · rintro ⟨m, z⟩ ⟨a1, a2⟩
      simp only at a1 a2
      subst a2
      have c1 : nI 3 < nI 4 := by decide
      exact ⟨(m, nI 4), by simp only [fX1_isTooDeep_l4, e3, c1, if_true], a1⟩
  obtain ⟨w, k1, k2⟩ := key
  by_cases g : w.1 = 0
  · refine ⟨0, by simp only [fX1_isTooDeep, k1, Option.bind_some, g, if_true], Or.inr ⟨rfl, ?_⟩⟩
    rintro ⟨b, h⟩
    have hb' := Wk_b hb (by omega : 0 < 10) 4 b h
    have := (k2 b (by omega)).mpr h
    rw [g, bI_0] at this
    cases this
  · refine ⟨1, by simp only [fX1_isTooDeep, k1, Option.bind_some, g, if_false], Or.inl ⟨rfl, ?_⟩⟩
    apply Classical.byContradiction
    intro no
    apply g
    apply bI_ext
    intro j hj
    rw [bI_0]
    exact Bool.eq_false_iff.mpr (fun h => no ⟨j, (k2 j hj).mp h⟩)
theorem mayTie_eq {H : HS} {n p q : Nat} {C : Nat → Ent} (hC : HoldC n C H) (hn : n ≤ 100) (hb : ∀ i, i < n → (C i).1 < 10 ∧ (C i).2.1 < 10 ∧ (C i).2.2.1 ≤ 100) (hp : p < 10) (hq : q < 10) : ∃ r T, fX1_mayTie H (nI p) (nI q) = some (r, T) ∧ FrH T H ∧ HS_spanShares T = HS_spanShares H ∧ HS_spanIsMade T = HS_spanIsMade H ∧ ((r = 1 ∧ (¬ ∃ k, k ≤ 9 ∧ Wk (EdN n C p q) k q p) ∧ ¬ ∃ b, Wk (EdN n C p q) 4 0 b) ∨ (r = 0 ∧ ¬ ((¬ ∃ k, k ≤ 9 ∧ Wk (EdN n C p q) k q p) ∧ ¬ ∃ b, Wk (EdN n C p q) 4 0 b))) := by
  obtain ⟨T, t1, t2, t3, t4, t5⟩ := gather_eq hC hn hb
  have c1 : inb (nI p) 10 = true := inb_nI hp (by omega)
  have c2 : (nI p).toNatClampNeg = p := nI_clamp (by omega)
  have hbN : ∀ a b, EdN n C p q a b → b < 10 := by
    rintro a b (⟨i, h1, h2, h3, h4⟩ | ⟨h1, h2⟩)
    · rw [← h3]; exact (hb i h1).2.1
    · omega
  obtain ⟨Z, hZ⟩ : ∃ Z, Z = HS_tied_s T (upd (HS_tied T) p (HS_tied T p ||| ((1 : Int32) <<< (nI q &&& 31)))) := ⟨_, rfl⟩
  have zT : TiesIs Z (EdN n C p q) := by
    intro a ha j hj
    rw [hZ, HS_tied_tied]
    unfold EdN
    by_cases w : a = p
    · subst w
      rw [upd_s, bI_or, bI_one q hq j hj, Bool.or_eq_true, t5 a ha j hj, decide_eq_true_iff]
      exact ⟨fun h => h.imp id (fun h => ⟨rfl, h⟩), fun h => h.imp id (fun h => h.2)⟩
    · rw [upd_n _ _ w, t5 a ha j hj]
      exact ⟨Or.inl, fun h => h.elim id (fun h => absurd h.1 w)⟩
  have zF : FrH Z H := by rw [hZ]; exact t2
  have z3 : HS_spanShares Z = HS_spanShares H := by rw [hZ]; exact t3
  have z4 : HS_spanIsMade Z = HS_spanIsMade H := by rw [hZ]; exact t4
  obtain ⟨r, r1, r2⟩ := tiedTo_eq zT hbN hq hp
  obtain ⟨d, d1, d2⟩ := deep_eq zT hbN
  have n1 : ¬ (1 : Int32) = 0 := by decide
  rcases r2 with ⟨rfl, h⟩ | ⟨rfl, h⟩
  · exact ⟨0, Z, by simp only [fX1_mayTie, t1, Option.bind_some, c1, c2, ← hZ, r1, n1, if_true, if_false], zF, z3, z4, Or.inr ⟨rfl, fun w => w.1 h⟩⟩
  · rcases d2 with ⟨rfl, g⟩ | ⟨rfl, g⟩
    · exact ⟨0, Z, by simp only [fX1_mayTie, t1, Option.bind_some, c1, c2, ← hZ, r1, d1, n1, if_true, if_false], zF, z3, z4, Or.inr ⟨rfl, fun w => w.2 g⟩⟩
    · exact ⟨1, Z, by simp only [fX1_mayTie, t1, Option.bind_some, c1, c2, ← hZ, r1, d1, if_true], zF, z3, z4, Or.inl ⟨rfl, h, g⟩⟩
