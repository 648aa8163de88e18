/-! the reference's two turns -/
theorem dp_init (m : MS) (x3 : Int32) {t : Nat} (ht : t < 2) : ∃ y, loopN (fun (s : MS × Int32) => fX6_mayHold_l103 x3 (nI t) s.1 s.2) fuelN (m, (0 : Int32)) = some y ∧ FrA y.1 m ∧ MS_edge y.1 = MS_edge m ∧ DIs y.1 (fun v => if t = 0 ∨ v = 0 then 1 else 0) := by
  refine loop_f (fun (i : Nat) (s : MS × Int32) => FrA s.1 m ∧ MS_edge s.1 = MS_edge m ∧ (∀ v, v < i → MS_deep s.1 v = dI (if t = 0 ∨ v = 0 then 1 else 0)) ∧ s.2 = nI i) _ 10 (by omega) ⟨FrA_rf m, rfl, fun v hv => by omega, zero_nI⟩ ?_ ?_
  · rintro i ⟨T, y⟩ hi ⟨a1, a2, a3, a4⟩
    simp only at a1 a2 a3 a4
    subst a4
    left
    have c1 : ¬ nI 10 ≤ nI i := by rw [nI_leI (by omega) (by omega)]; omega
    have c2 : inb (nI i) 10 = true := inb_nI hi (by omega)
    have c3 : (nI i).toNatClampNeg = i := nI_clamp (by omega)
    have fin : ∀ w : Int32, w = dI (if t = 0 ∨ i = 0 then 1 else 0) → fX6_mayHold_l103 x3 (nI t) T (nI i) = some (.inl (MS_deep_s T (upd (MS_deep T) i w), nI (i + 1))) → ∃ s' : MS × Int32, fX6_mayHold_l103 x3 (nI t) T (nI i) = some (.inl s') ∧ FrA s'.1 m ∧ MS_edge s'.1 = MS_edge m ∧ (∀ v, v < i + 1 → MS_deep s'.1 v = dI (if t = 0 ∨ v = 0 then 1 else 0)) ∧ s'.2 = nI (i + 1) := by
      intro w hw h
      refine ⟨_, h, FrA_s_deep a1 _, (MS_edge_deep T _).trans a2, fun v hv => ?_, rfl⟩
      show MS_deep (MS_deep_s T _) v = _
      rw [MS_deep_deep]
      by_cases q : v = i
      · subst q; rw [upd_s]; exact hw
      · rw [upd_n _ _ q]; exact a3 v (by omega)
    by_cases g : t = 0
    · have g' : nI t = 0 := by rw [g]; rfl
      refine fin 0 (by rw [if_pos (Or.inl g)]; rfl) ?_
      rw [g']
      simp only [fX6_mayHold_l103, fX6_mayHold_b126, fX6_mayHold_b132, bnd, ten_nI, c1, c2, c3, if_true, if_false, nI_1]
    · have g' : ¬ nI t = 0 := nI_ne0 (by omega) (by omega)
      by_cases g2 : i = 0
      · have g3 : nI i = 0 := by rw [g2]; rfl
        refine fin 0 (by rw [if_pos (Or.inr g2)]; rfl) ?_
        simp only [fX6_mayHold_l103, fX6_mayHold_b126, fX6_mayHold_b132, bnd, ten_nI, c1, c2, c3, g', nI_1, if_true, if_false]
        rw [if_pos g3]
      · have g3 : ¬ nI i = 0 := nI_ne0 (by omega) (by omega)
        refine fin (-9) (by rw [if_neg (by omega)]; rfl) ?_
        simp only [fX6_mayHold_l103, fX6_mayHold_b132, bnd, ten_nI, c1, c2, c3, g', g3, nI_1, if_true, if_false]
  · rintro ⟨T, y⟩ ⟨a1, a2, a3, a4⟩
    simp only at a1 a2 a3 a4
    subst a4
    have c1 : nI 10 ≤ nI 10 := Int32.le_refl _
    exact ⟨(T, nI 10), by simp only [fX6_mayHold_l103, ten_nI, c1, if_true], a1, a2, a3⟩
theorem chk_all {m : MS} {D : Nat → Nat} (hD : DIs m D) (hb : ∀ u, u < 10 → D u < 10000) {t L : Nat} (ht : t < 2) (hL : L = if t = 0 then 9 else 3) {x : Int32} (P : Prop) (hx : (x = 1 ∧ P) ∨ (x = 0 ∧ ¬ P)) : ∃ y, loopN (fun (s : Int32 × Int32) => fX6_mayHold_l244 m (nI t) s.1 s.2) fuelN (x, (0 : Int32)) = some y ∧ ((y.1 = 1 ∧ P ∧ ∀ v, v < 10 → D v ≤ L + 1) ∨ (y.1 = 0 ∧ ¬ (P ∧ ∀ v, v < 10 → D v ≤ L + 1))) := by
  refine loop_f (fun (i : Nat) (s : Int32 × Int32) => s.2 = nI i ∧ ((s.1 = 1 ∧ P ∧ ∀ v, v < i → D v ≤ L + 1) ∨ (s.1 = 0 ∧ ¬ (P ∧ ∀ v, v < i → D v ≤ L + 1)))) _ 10 (by omega) ⟨rfl, ?_⟩ ?_ ?_
  · rcases hx with ⟨h1, h2⟩ | ⟨h1, h2⟩
    · exact Or.inl ⟨h1, h2, fun v hv => by omega⟩
    · exact Or.inr ⟨h1, fun w => h2 w.1⟩
  · rintro i ⟨z, y⟩ hi ⟨a1, a2⟩
    simp only at a1 a2
    subst a1
    left
    have c1 : ¬ nI 10 ≤ nI i := by rw [nI_leI (by omega) (by omega)]; omega
    have c2 : inb (nI i) 10 = true := inb_nI hi (by omega)
    have c3 : (nI i).toNatClampNeg = i := nI_clamp (by omega)
    have n1 : ¬ (1 : Int32) = 0 := by decide
    rcases a2 with ⟨rfl, b1, b2⟩ | ⟨rfl, b1⟩
    · have body : fX6_mayHold_l244 m (nI t) 1 (nI i) = if nI L < dI (D i) then some (.inl (0, nI (i + 1))) else some (.inl (1, nI (i + 1))) := by
        by_cases g : t = 0
        · have g' : nI t = 0 := by rw [g]; rfl
          rw [if_pos g] at hL
          subst hL
          rw [g']
          simp only [fX6_mayHold_l244, fX6_mayHold_b273, fX6_mayHold_b280, fX6_mayHold_b281, ten_nI, c1, c2, c3, n1, hD i hi, nI_1, if_true, if_false]
          rfl
        · have g' : ¬ nI t = 0 := nI_ne0 (by omega) (by omega)
          rw [if_neg g] at hL
          subst hL
          simp only [fX6_mayHold_l244, fX6_mayHold_b273, fX6_mayHold_b280, fX6_mayHold_b281, ten_nI, c1, c2, c3, n1, g', hD i hi, nI_1, if_true, if_false]
          rfl
      have hL' : L < 10000 := by rw [hL]; split <;> omega
      by_cases g : nI L < dI (D i)
      · rw [if_pos g] at body
        have g2 := (dI_lt hL' (hb i hi)).mp g
        refine ⟨_, body, rfl, Or.inr ⟨rfl, fun w => ?_⟩⟩
        have := w.2 i (by omega)
        omega
      · rw [if_neg g] at body
        have g2 : ¬ L + 2 ≤ D i := fun w => g ((dI_lt hL' (hb i hi)).mpr w)
        refine ⟨_, body, rfl, Or.inl ⟨rfl, b1, fun v hv => ?_⟩⟩
        by_cases w : v = i
        · subst w; omega
        · exact b2 v (by omega)
    · refine ⟨(0, nI (i + 1)), by simp only [fX6_mayHold_l244, fX6_mayHold_b280, fX6_mayHold_b281, ten_nI, c1, nI_1, if_true, if_false], rfl, Or.inr ⟨rfl, fun w => b1 ⟨w.1, fun v hv => w.2 v (by omega)⟩⟩⟩
  · rintro ⟨z, y⟩ ⟨a1, a2⟩
    simp only at a1 a2
    subst a1
    have c1 : nI 10 ≤ nI 10 := Int32.le_refl _
    exact ⟨(z, nI 10), by simp only [fX6_mayHold_l244, ten_nI, c1, if_true], a2⟩
theorem turn_eq {m T : MS} {E : Nat → Nat → Prop} (hbE : ∀ a b, E a b → a < 10 ∧ b < 10) (f : FrA T m) (hE : EdgeIs T E) {t L : Nat} (ht : t < 2) (hL : L = if t = 0 then 9 else 3) {x : Int32} (P : Prop) (hx : (x = 1 ∧ P) ∨ (x = 0 ∧ ¬ P)) : ∃ T' x', fX6_mayHold_l94 T x (nI t) = some (.inl (T', x', nI (t + 1))) ∧ FrA T' m ∧ EdgeIs T' E ∧ ∃ D, Snd E (fun a => a < 10 ∧ (t = 0 ∨ a = 0)) D ∧ Cmp E (fun a => a < 10 ∧ (t = 0 ∨ a = 0)) 11 D ∧ ((x' = 1 ∧ P ∧ ∀ v, v < 10 → D v ≤ L + 1) ∨ (x' = 0 ∧ ¬ (P ∧ ∀ v, v < 10 → D v ≤ L + 1))) := by
  have e2 : (2 : Int32) = nI 2 := rfl
  have c1 : ¬ nI 2 ≤ nI t := by rw [nI_leI (by omega) (by omega)]; omega
  obtain ⟨y, y1, y2, y3, y4⟩ := dp_init T x ht
  obtain ⟨w, w1, w2, w3, D, w4, w5, w6, w7⟩ := rounds (m := y.1) (E := E) (S := fun a => a < 10 ∧ (t = 0 ∨ a = 0)) x (nI t) hbE (fun a h => h.1) (EdgeIs_fr hE y3) y4 (fun u _ => by show (if t = 0 ∨ u = 0 then 1 else 0) ≤ 1; split <;> omega) (by
    intro u hu
    show (if t = 0 ∨ u = 0 then 1 else 0) = 0 ∨ _
    by_cases g : t = 0 ∨ u = 0
    · right
      refine ⟨u, ⟨hu, g⟩, ?_⟩
      show Wk E ((if t = 0 ∨ u = 0 then 1 else 0) - 1) u u
      rw [if_pos g]
      exact rfl
    · rw [if_neg g]; exact Or.inl rfl) (by
    intro a h
    show 1 ≤ if t = 0 ∨ a = 0 then 1 else 0
    rw [if_pos h.2]
    exact Nat.le_refl _)
  obtain ⟨z, z1, z2⟩ := chk_all w4 (fun u hu => by have := w5 u hu; omega) ht hL P hx
  refine ⟨w.1, z.1, ?_, FrA_tr w2 (FrA_tr y2 f), EdgeIs_fr hE (w3.trans y3), D, w6, w7, z2⟩
  simp only [fX6_mayHold_l94, e2, c1, y1, w1, z1, Option.bind_some, if_false, nI_1]
theorem mayHold_eq {m : MS} {n p q : Nat} {M : Nat → Ent} {rk : Nat → Nat} (hM : HoldM n M m) (hn : n ≤ 100) (hb : ∀ i, i < n → (M i).1 < 10 ∧ (M i).2.1 < 10 ∧ (M i).2.2.1 ≤ 100) (hrk : ∀ i, i < n → 0 < (M i).2.2.1 → rk (M i).1 < rk (M i).2.1) (hp : p < 10) (hq : q < 10) : ∃ r T, fX6_mayHold m (nI p) (nI q) = some (r, T) ∧ FrA T m ∧ ((r = 1 ∧ (¬ ∃ k, k ≤ 9 ∧ Wk (EdN n M p q) k q p) ∧ ¬ ∃ b, Wk (EdN n M p q) 4 0 b) ∨ (r = 0 ∧ ¬ ((¬ ∃ k, k ≤ 9 ∧ Wk (EdN n M p q) k q p) ∧ ¬ ∃ b, Wk (EdN n M p q) 4 0 b))) := by
  obtain ⟨y, y1, y2, y3⟩ := ed_1 m hp hq
  obtain ⟨w, w1, w2, w3⟩ := ed_2 y2 hM hn hb hp hq y3
  have hbE : ∀ a b, EdN n M p q a b → a < 10 ∧ b < 10 := by
    rintro a b (⟨i, h1, h2, h3, h4⟩ | ⟨h1, h2⟩)
    · rw [← h2, ← h3]; exact ⟨(hb i h1).1, (hb i h1).2.1⟩
    · omega
  have e2 : (2 : Int32) = nI 2 := rfl
  have key : ∃ z, loopN (fun (s : MS × Int32 × Int32) => fX6_mayHold_l94 s.1 s.2.1 s.2.2) fuelN (w.1, (1 : Int32), (0 : Int32)) = some z ∧ FrA z.1 m ∧ ((z.2.1 = 1 ∧ (¬ ∃ k, k ≤ 9 ∧ Wk (EdN n M p q) k q p) ∧ ¬ ∃ b, Wk (EdN n M p q) 4 0 b) ∨ (z.2.1 = 0 ∧ ¬ ((¬ ∃ k, k ≤ 9 ∧ Wk (EdN n M p q) k q p) ∧ ¬ ∃ b, Wk (EdN n M p q) 4 0 b))) := by
    refine loop_f (fun (i : Nat) (s : MS × Int32 × Int32) => FrA s.1 m ∧ EdgeIs s.1 (EdN n M p q) ∧ s.2.2 = nI i ∧ ((s.2.1 = 1 ∧ ((1 ≤ i → ¬ ∃ k, k ≤ 9 ∧ Wk (EdN n M p q) k q p) ∧ (2 ≤ i → ¬ ∃ b, Wk (EdN n M p q) 4 0 b))) ∨ (s.2.1 = 0 ∧ ¬ ((1 ≤ i → ¬ ∃ k, k ≤ 9 ∧ Wk (EdN n M p q) k q p) ∧ (2 ≤ i → ¬ ∃ b, Wk (EdN n M p q) 4 0 b))))) _ 2 (by omega) ⟨w2, w3, rfl, Or.inl ⟨rfl, fun h => by omega, fun h => by omega⟩⟩ ?_ ?_
    · rintro i ⟨T, x, z⟩ hi ⟨a1, a2, a3, a4⟩
      simp only at a1 a2 a3 a4
      subst a3
      left
      obtain ⟨T', x', t1, t2, t3, D, t4, t5, t6⟩ := turn_eq hbE a1 a2 hi rfl _ a4
      refine ⟨(T', x', nI (i + 1)), t1, t2, t3, rfl, ?_⟩
      show (x' = 1 ∧ _) ∨ (x' = 0 ∧ _)
      by_cases g : i = 0
      · subst g
        rw [if_pos rfl] at t6
        have eq : (∀ v, v < 10 → D v ≤ 9 + 1) ↔ ¬ ∃ k, k ≤ 9 ∧ Wk (EdN n M p q) k q p := by
          constructor
          · rintro h ⟨k, k1, k2⟩
            obtain ⟨b, hb'⟩ := Wk_long k2 (Or.inr ⟨rfl, rfl⟩) 10
            have b10 := Wk_b (fun a b e => (hbE a b e).2) hp 10 b hb'
            have := t5 10 p b (by omega) ⟨hp, Or.inl rfl⟩ hb'
            have := h b b10
            omega
          · intro no v hv
            obtain ⟨r, r1, r2⟩ := newRank (E0 := EdC n M) (E := EdN n M p q) (rk := rk) (by
              rintro a b ⟨i, h1, h2, h3, h4⟩
              rw [← h2, ← h3]; exact hrk i h1 h4) hp hq (fun a b e => e) hbE no
            rcases t4 v hv with z | ⟨a, z1, z2⟩
            · omega
            · have := Wk_rank r1 _ _ z2
              have := r2 v hv
              omega
        rcases t6 with ⟨h1, h2, h3⟩ | ⟨h1, h2⟩
        · exact Or.inl ⟨h1, fun _ => eq.mp h3, fun h => by omega⟩
        · refine Or.inr ⟨h1, fun w => h2 ⟨⟨fun h => by omega, fun h => by omega⟩, eq.mpr (w.1 (by omega))⟩⟩
      · have g1 : i = 1 := by omega
        subst g1
        rw [if_neg g] at t6
        have eq : (∀ v, v < 10 → D v ≤ 3 + 1) ↔ ¬ ∃ b, Wk (EdN n M p q) 4 0 b := by
          constructor
          · rintro h ⟨b, hb'⟩
            have b10 := Wk_b (fun a b e => (hbE a b e).2) (by omega : 0 < 10) 4 b hb'
            have := t5 4 0 b (by omega) ⟨by omega, Or.inr rfl⟩ hb'
            have := h b b10
            omega
          · intro no v hv
            rcases t4 v hv with z | ⟨a, ⟨z0, z1⟩, z2⟩
            · omega
            · have a0 : a = 0 := by omega
              subst a0
              apply Classical.byContradiction
              intro w
              have e : D v - 1 = 4 + (D v - 5) := by omega
              rw [e] at z2
              exact no (Wk_pre _ _ z2)
        rcases t6 with ⟨h1, h2, h3⟩ | ⟨h1, h2⟩
        · exact Or.inl ⟨h1, fun _ => h2.1 (by omega), fun _ => eq.mp h3⟩
        · refine Or.inr ⟨h1, fun w => h2 ⟨⟨fun _ => w.1 (by omega), fun h => by omega⟩, eq.mpr (w.2 (by omega))⟩⟩
    · rintro ⟨T, x, z⟩ ⟨a1, a2, a3, a4⟩
      simp only at a1 a2 a3 a4
      subst a3
      have c1 : nI 2 ≤ nI 2 := Int32.le_refl _
      refine ⟨(T, x, nI 2), by simp only [fX6_mayHold_l94, e2, c1, if_true], a1, ?_⟩
      rcases a4 with ⟨h1, h2, h3⟩ | ⟨h1, h2⟩
      · exact Or.inl ⟨h1, h2 (by omega), h3 (by omega)⟩
      · exact Or.inr ⟨h1, fun w => h2 ⟨fun _ => w.1, fun _ => w.2⟩⟩
  obtain ⟨z, z1, z2, z3⟩ := key
  have zb : isB z.2.1 = true := isB_iff.mpr (z3.elim (fun h => Or.inr h.1) (fun h => Or.inl h.1))
  exact ⟨z.2.1, z.1, by simp only [fX6_mayHold, y1, w1, z1, Option.bind_some, zb, if_true], z2, z3⟩
