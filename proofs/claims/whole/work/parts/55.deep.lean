/-! the reference: may a holding be -/
def EdgeIs (m : MS) (E : Nat → Nat → Prop) : Prop := ∀ a b, a < 10 → b < 10 → (MS_edge m (10 * a + b) = 1 ∧ E a b) ∨ (MS_edge m (10 * a + b) = 0 ∧ ¬ E a b)
theorem EdgeIs_fr {m T : MS} {E : Nat → Nat → Prop} (h : EdgeIs m E) (e : MS_edge T = MS_edge m) : EdgeIs T E := fun a b ha hb => by rw [e]; exact h a b ha hb
theorem ed_1 (m : MS) {p q : Nat} (hp : p < 10) (hq : q < 10) : ∃ y, loopN (fun (s : MS × Int32) => fX6_mayHold_l2 (nI p) (nI q) s.1 s.2) fuelN (m, (0 : Int32)) = some y ∧ FrA y.1 m ∧ ∀ k, k < 100 → MS_edge y.1 k = if k = 10 * p + q then 1 else 0 := by
  have e100 : (100 : Int32) = nI 100 := rfl
  refine loop_f (fun (i : Nat) (s : MS × Int32) => FrA s.1 m ∧ (∀ k, k < i → MS_edge s.1 k = if k = 10 * p + q then 1 else 0) ∧ s.2 = nI i) _ 100 (by omega) ⟨FrA_rf m, fun k hk => by omega, zero_nI⟩ ?_ ?_
  · rintro i ⟨T, y⟩ hi ⟨a1, a2, a3⟩
    simp only at a1 a2 a3
    subst a3
    left
    have c1 : ¬ nI 100 ≤ nI i := by rw [nI_leI (by omega) (by omega)]; omega
    have c2 : inb (nI i) 100 = true := inb_nI hi (by omega)
    have c3 : (nI i).toNatClampNeg = i := nI_clamp (by omega)
    have fin : ∀ v : Int32, v = (if i = 10 * p + q then 1 else 0) → fX6_mayHold_l2 (nI p) (nI q) T (nI i) = some (.inl (MS_edge_s T (upd (MS_edge T) i v), nI (i + 1))) → ∃ s' : MS × Int32, fX6_mayHold_l2 (nI p) (nI q) T (nI i) = some (.inl s') ∧ FrA s'.1 m ∧ (∀ k, k < i + 1 → MS_edge s'.1 k = if k = 10 * p + q then 1 else 0) ∧ s'.2 = nI (i + 1) := by
      intro v hv h
      refine ⟨_, h, FrA_s_edge a1 _, fun k hk => ?_, rfl⟩
      show MS_edge (MS_edge_s T _) k = _
      rw [MS_edge_edge]
      by_cases w : k = i
      · subst w; rw [upd_s, hv]
      · rw [upd_n _ _ w]; exact a2 k (by omega)
    by_cases g : i = 10 * p + q
    · have g' : nI i = nI (10 * p + q) := by rw [g]
      have g2 : (nI (10 * p + q)).toNatClampNeg = i := by rw [← g']; exact c3
      refine fin 1 (by rw [if_pos g]) ?_
      rw [g'] at c1 c2
      simp only [fX6_mayHold_l2, fX6_mayHold_b28, bnd, e100, at10, g', c1, c2, g2, nar1, if_true, if_false, nI_1]
      rw [g]
    · have g' : ¬ nI i = nI (10 * p + q) := by rw [nI_eq (by omega) (by omega)]; exact g
      exact fin 0 (by rw [if_neg g]) (by simp only [fX6_mayHold_l2, fX6_mayHold_b28, bnd, e100, at10, g', c1, c2, c3, nar0, if_true, if_false, nI_1])
  · rintro ⟨T, y⟩ ⟨a1, a2, a3⟩
    simp only at a1 a2 a3
    subst a3
    have c1 : nI 100 ≤ nI 100 := Int32.le_refl _
    exact ⟨(T, nI 100), by simp only [fX6_mayHold_l2, e100, c1, if_true], a1, a2⟩
theorem orB {x y : Int32} (hx : x = 0 ∨ x = 1) (hy : y = 0 ∨ y = 1) : vp_nar .boolean (x ||| y) = if x = 1 ∨ y = 1 then 1 else 0 := by
  rcases hx with rfl | rfl <;> rcases hy with rfl | rfl <;> rfl
theorem ed_2 {m0 m : MS} {n p q : Nat} {M : Nat → Ent} (f0 : FrA m0 m) (hM : HoldM n M m) (hn : n ≤ 100) (hb : ∀ i, i < n → (M i).1 < 10 ∧ (M i).2.1 < 10 ∧ (M i).2.2.1 ≤ 100) (hp : p < 10) (hq : q < 10) (h1 : ∀ k, k < 100 → MS_edge m0 k = if k = 10 * p + q then 1 else 0) : ∃ y, loopN (fun (s : MS × Int32) => fX6_mayHold_l37 s.1 s.2) fuelN (m0, (0 : Int32)) = some y ∧ FrA y.1 m ∧ EdgeIs y.1 (EdN n M p q) := by
  refine loop_f (fun (i : Nat) (s : MS × Int32) => FrA s.1 m ∧ EdgeIs s.1 (EdN i M p q) ∧ s.2 = nI i) _ n (by omega) ⟨f0, fun a b ha hb' => ?_, zero_nI⟩ ?_ ?_
  · show (MS_edge m0 (10 * a + b) = 1 ∧ _) ∨ (MS_edge m0 (10 * a + b) = 0 ∧ _)
    rw [h1 _ (by omega)]
    by_cases w : 10 * a + b = 10 * p + q
    · rw [if_pos w]
      exact Or.inl ⟨rfl, Or.inr (by omega)⟩
    · rw [if_neg w]
      refine Or.inr ⟨rfl, ?_⟩
      rintro (⟨j, hj, _⟩ | h)
      · omega
      · omega
  · rintro i ⟨T, y⟩ hi ⟨a1, a2, a3⟩
    simp only at a1 a2 a3
    subst a3
    left
    obtain ⟨v1, v2, v3, v4⟩ := (HoldM_fr hM a1).2 i hi
    have sz : MS_holdings T = nI n := (HoldM_fr hM a1).1
    obtain ⟨b1, b2, b3⟩ := hb i hi
    have c1 : ¬ nI n ≤ nI i := by rw [nI_leI (by omega) (by omega)]; omega
    have c2 : inb (nI i) 100 = true := inb_nI (by omega) (by omega)
    have c3 : (nI i).toNatClampNeg = i := nI_clamp (by omega)
    have c4 : inb (nI (10 * (M i).1 + (M i).2.1)) 100 = true := inb_nI (by omega) (by omega)
    have c5 : (nI (10 * (M i).1 + (M i).2.1)).toNatClampNeg = 10 * (M i).1 + (M i).2.1 := nI_clamp (by omega)
    have old := a2 (M i).1 (M i).2.1 b1 b2
    have oldB : MS_edge T (10 * (M i).1 + (M i).2.1) = 0 ∨ MS_edge T (10 * (M i).1 + (M i).2.1) = 1 := old.elim (fun h => Or.inr h.1) (fun h => Or.inl h.1)
    have suc : ∀ a b, EdN (i + 1) M p q a b ↔ EdN i M p q a b ∨ ((M i).1 = a ∧ (M i).2.1 = b ∧ 0 < (M i).2.2.1) := by
      intro a b
      unfold EdN
      rw [EdC_succ]
      constructor
      · rintro ((h | h) | h)
        · exact Or.inl (Or.inl h)
        · exact Or.inr h
        · exact Or.inl (Or.inr h)
      · rintro ((h | h) | h)
        · exact Or.inl (Or.inl h)
        · exact Or.inr h
        · exact Or.inl (Or.inr h)
    have fin : ∀ v w : Int32, w = (if MS_edge T (10 * (M i).1 + (M i).2.1) = 1 ∨ v = 1 then 1 else 0) → (v = 1 ↔ 0 < (M i).2.2.1) → fX6_mayHold_l37 T (nI i) = some (.inl (MS_edge_s T (upd (MS_edge T) (10 * (M i).1 + (M i).2.1) w), nI (i + 1))) → ∃ s' : MS × Int32, fX6_mayHold_l37 T (nI i) = some (.inl s') ∧ FrA s'.1 m ∧ EdgeIs s'.1 (EdN (i + 1) M p q) ∧ s'.2 = nI (i + 1) := by
      intro v w hw hv h
      refine ⟨_, h, FrA_s_edge a1 _, fun a b ha hb' => ?_, rfl⟩
      show (MS_edge (MS_edge_s T _) (10 * a + b) = 1 ∧ _) ∨ (MS_edge (MS_edge_s T _) (10 * a + b) = 0 ∧ _)
      rw [MS_edge_edge, suc]
      by_cases g : 10 * a + b = 10 * (M i).1 + (M i).2.1
      · have ga : a = (M i).1 := by omega
        have gb : b = (M i).2.1 := by omega
        subst ga; subst gb
        rw [upd_s, hw]
        by_cases z : MS_edge T (10 * (M i).1 + (M i).2.1) = 1 ∨ v = 1
        · rw [if_pos z]
          left
          refine ⟨rfl, ?_⟩
          rcases z with z | z
          · rcases old with o | o
            · exact Or.inl o.2
            · rw [o.1] at z; exact absurd z (by decide)
          · exact Or.inr ⟨rfl, rfl, hv.mp z⟩
        · rw [if_neg z]
          right
          refine ⟨rfl, ?_⟩
          rintro (h2 | h2)
          · rcases old with o | o
            · exact z (Or.inl o.1)
            · exact o.2 h2
          · exact z (Or.inr (hv.mpr h2.2.2))
      · rw [upd_n _ _ g]
        rcases a2 a b ha hb' with o | o
        · exact Or.inl ⟨o.1, Or.inl o.2⟩
        · refine Or.inr ⟨o.1, ?_⟩
          rintro (h2 | ⟨h2, h3, -⟩)
          · exact o.2 h2
          · exact g (by rw [h2, h3])
    by_cases g0 : (M i).2.2.1 = 0
    · have qz : nI 0 ≤ 0 := by decide
      exact fin 0 _ (orB oldB (Or.inl rfl)) ⟨fun w => absurd w (by decide), fun w => by omega⟩ (by simp only [fX6_mayHold_l37, fX6_mayHold_b81, bnd, sz, v1, v2, v3, at10, c1, c2, c3, c4, c5, g0, qz, if_true, if_false, nI_1])
    · have qz : ¬ nI (M i).2.2.1 ≤ 0 := nI_nle (by omega) (by omega)
      exact fin 1 _ (orB oldB (Or.inr rfl)) ⟨fun _ => by omega, fun _ => rfl⟩ (by simp only [fX6_mayHold_l37, fX6_mayHold_b81, bnd, sz, v1, v2, v3, at10, c1, c2, c3, c4, c5, qz, if_true, if_false, nI_1])
  · rintro ⟨T, y⟩ ⟨a1, a2, a3⟩
    simp only at a1 a2 a3
    subst a3
    have sz : MS_holdings T = nI n := (HoldM_fr hM a1).1
    have c1 : nI n ≤ nI n := Int32.le_refl _
    exact ⟨(T, nI n), by simp only [fX6_mayHold_l37, sz, c1, if_true], a1, a2⟩
/-- depths: 0 is none, x + 1 is x -/
def dI (x : Nat) : Int32 := if x = 0 then -9 else nI (x - 1)
def DIs (m : MS) (D : Nat → Nat) : Prop := ∀ u, u < 10 → MS_deep m u = dI (D u)
def Snd (E : Nat → Nat → Prop) (S : Nat → Prop) (D : Nat → Nat) : Prop := ∀ u, u < 10 → D u = 0 ∨ ∃ a, S a ∧ Wk E (D u - 1) a u
theorem dI_neg {x : Nat} (h : x < 10000) : dI x < 0 ↔ x = 0 := by
  unfold dI
  by_cases g : x = 0
  · rw [if_pos g]; exact ⟨fun _ => g, fun _ => by decide⟩
  · rw [if_neg g]; exact ⟨fun w => absurd w (nI_pos (by omega)), fun w => absurd w g⟩
theorem dI_suc {x : Nat} (h : 0 < x) : dI x + 1 = nI x := by
  unfold dI
  rw [if_neg (by omega), nI_1]; congr 1; omega
theorem dI_le {x y : Nat} (hx : x < 10000) (hy : y < 10000) : nI x ≤ dI y ↔ x + 1 ≤ y := by
  unfold dI
  by_cases g : y = 0
  · rw [if_pos g]
    constructor
    · intro w
      rw [Int32.le_iff_toInt_le, nI_toInt (by omega)] at w
      have : (-9 : Int32).toInt = -9 := by decide
      omega
    · intro w; omega
  · rw [if_neg g, nI_leI (by omega) (by omega)]; omega
theorem dI_lt {x y : Nat} (hx : x < 10000) (hy : y < 10000) : nI x < dI y ↔ x + 2 ≤ y := by
  unfold dI
  by_cases g : y = 0
  · rw [if_pos g]
    constructor
    · intro w
      rw [Int32.lt_iff_toInt_lt, nI_toInt (by omega)] at w
      have : (-9 : Int32).toInt = -9 := by decide
      omega
    · intro w; omega
  · rw [if_neg g, nI_ltI (by omega) (by omega)]; omega
def updN (D : Nat → Nat) (k v : Nat) : Nat → Nat := fun i => if i = k then v else D i
theorem relax {m : MS} {E : Nat → Nat → Prop} {S : Nat → Prop} {D0 : Nat → Nat} {B : Nat} (x3 x4 x5 : Int32) (hB : B < 5000) (hE : EdgeIs m E) (hD : DIs m D0) (hb : ∀ u, u < 10 → D0 u ≤ B) (hs : Snd E S D0) : ∃ y, loopN (fun (s : MS × Int32) => fX6_mayHold_l152 x3 x4 x5 s.1 s.2) fuelN (m, (0 : Int32)) = some y ∧ FrA y.1 m ∧ MS_edge y.1 = MS_edge m ∧ ∃ D, DIs y.1 D ∧ (∀ u, u < 10 → D u ≤ B + 100) ∧ Snd E S D ∧ (∀ u, D0 u ≤ D u) ∧ ∀ c u, c < 10 → u < 10 → E c u → 0 < D0 c → D0 c + 1 ≤ D u := by
  have e100 : (100 : Int32) = nI 100 := rfl
  have key : ∃ y, loopN (fun (s : MS × Int32) => fX6_mayHold_l152 x3 x4 x5 s.1 s.2) fuelN (m, (0 : Int32)) = some y ∧ FrA y.1 m ∧ MS_edge y.1 = MS_edge m ∧ ∃ D, DIs y.1 D ∧ (∀ u, u < 10 → D u ≤ B + 100) ∧ Snd E S D ∧ (∀ u, D0 u ≤ D u) ∧ ∀ c u, c < 10 → u < 10 → 10 * c + u < 100 → E c u → 0 < D0 c → D0 c + 1 ≤ D u := by
    refine loop_f (fun (i : Nat) (s : MS × Int32) => FrA s.1 m ∧ MS_edge s.1 = MS_edge m ∧ s.2 = nI i ∧ ∃ D, DIs s.1 D ∧ (∀ u, u < 10 → D u ≤ B + i) ∧ Snd E S D ∧ (∀ u, D0 u ≤ D u) ∧ ∀ c u, c < 10 → u < 10 → 10 * c + u < i → E c u → 0 < D0 c → D0 c + 1 ≤ D u) _ 100 (by omega) ⟨FrA_rf m, rfl, rfl, D0, hD, hb, hs, fun _ => Nat.le_refl _, fun c u _ _ h => by omega⟩ ?_ ?_
    · rintro i ⟨T, y⟩ hi ⟨a1, a2, a3, D, a4, a5, a6, a7, a8⟩
      simp only at a1 a2 a3 a4
      subst a3
      left
      have c1 : ¬ nI 100 ≤ nI i := by rw [nI_leI (by omega) (by omega)]; omega
      have c2 : inb (nI i) 100 = true := inb_nI hi (by omega)
      have c3 : (nI i).toNatClampNeg = i := nI_clamp (by omega)
      obtain ⟨c, hc⟩ : ∃ c, c = i / 10 := ⟨_, rfl⟩
      obtain ⟨u, hu⟩ : ∃ u, u = i % 10 := ⟨_, rfl⟩
      have hiu : i = 10 * c + u := by omega
      have hc10 : c < 10 := by omega
      have hu10 : u < 10 := by omega
      have d1 : nI i / 10 = nI c := by rw [ten_nI, pk_div (by omega) (by omega) (by omega), hc]
      have d2 : nI i - nI c * 10 = nI u := by rw [ten_nI, pk_mul, pk_sub (by omega)]; congr 1; omega
      have c4 : inb (nI c) 10 = true := inb_nI hc10 (by omega)
      have c5 : (nI c).toNatClampNeg = c := nI_clamp (by omega)
      have c6 : inb (nI u) 10 = true := inb_nI hu10 (by omega)
      have c7 : (nI u).toNatClampNeg = u := nI_clamp (by omega)
      have dc := a4 c hc10
      have du := a4 u hu10
      have bc := a5 c hc10
      have bu := a5 u hu10
      have skip : fX6_mayHold_l152 x3 x4 x5 T (nI i) = some (.inl (T, nI (i + 1))) → (E c u → 0 < D0 c → D0 c + 1 ≤ D u) → ∃ s' : MS × Int32, fX6_mayHold_l152 x3 x4 x5 T (nI i) = some (.inl s') ∧ FrA s'.1 m ∧ MS_edge s'.1 = MS_edge m ∧ s'.2 = nI (i + 1) ∧ ∃ D, DIs s'.1 D ∧ (∀ u, u < 10 → D u ≤ B + (i + 1)) ∧ Snd E S D ∧ (∀ u, D0 u ≤ D u) ∧ ∀ c u, c < 10 → u < 10 → 10 * c + u < i + 1 → E c u → 0 < D0 c → D0 c + 1 ≤ D u := by
        intro h1 h2
        refine ⟨_, h1, a1, a2, rfl, D, a4, fun v hv => by have := a5 v hv; omega, a6, a7, fun c' u' q1 q2 q3 => ?_⟩
        by_cases w : 10 * c' + u' = i
        · have w1 : c' = c := by omega
          have w2 : u' = u := by omega
          subst w1; subst w2; exact h2
        · exact a8 c' u' q1 q2 (by omega)
      have ed := hE c u hc10 hu10
      rw [← hiu, ← a2] at ed
      rcases ed with ⟨ed, ee⟩ | ⟨ed, ee⟩
      · have n1 : ¬ (1 : Int32) = 0 := by decide
        by_cases g : D c = 0
        · have q : dI (D c) < 0 := (dI_neg (by omega)).mpr g
          refine skip (by simp only [fX6_mayHold_l152, fX6_mayHold_b229, e100, c1, c2, c3, ed, n1, d1, c4, c5, dc, q, if_true, if_false, nI_1]) (fun _ h => ?_)
          have := a7 c; omega
        · have q : ¬ dI (D c) < 0 := fun w => g ((dI_neg (by omega)).mp w)
          have sc : dI (D c) + 1 = nI (D c) := dI_suc (by omega)
          by_cases g2 : D c + 1 ≤ D u
          · have q2 : nI (D c) ≤ dI (D u) := (dI_le (by omega) (by omega)).mpr g2
            refine skip (by simp only [fX6_mayHold_l152, fX6_mayHold_b229, e100, c1, c2, c3, ed, n1, d1, d2, c4, c5, c6, c7, dc, du, q, sc, q2, if_true, if_false, nI_1]) (fun _ h => ?_)
            have := a7 c; omega
          · have q2 : ¬ nI (D c) ≤ dI (D u) := fun w => g2 ((dI_le (by omega) (by omega)).mp w)
            have eu : updN D u (D c + 1) u = D c + 1 := by unfold updN; rw [if_pos rfl]
            have en : ∀ v, v ≠ u → updN D u (D c + 1) v = D v := fun v hv => by unfold updN; rw [if_neg hv]
            have le : ∀ v, D v ≤ updN D u (D c + 1) v := by
              intro v
              by_cases w : v = u
              · subst w; rw [eu]; omega
              · rw [en v w]; exact Nat.le_refl _
            refine ⟨(MS_deep_s T (upd (MS_deep T) u (nI (D c))), nI (i + 1)), by simp only [fX6_mayHold_l152, fX6_mayHold_b229, bnd, e100, c1, c2, c3, ed, n1, d1, d2, c4, c5, c6, c7, dc, du, q, sc, q2, if_true, if_false, nI_1], FrA_s_deep a1 _, (MS_edge_deep T _).trans a2, rfl, updN D u (D c + 1), ?_, ?_, ?_, ?_, ?_⟩
            · intro v hv
              show MS_deep (MS_deep_s T _) v = _
              rw [MS_deep_deep]
              by_cases w : v = u
              · subst w; rw [upd_s, eu]; unfold dI; rw [if_neg (by omega)]; rfl
              · rw [upd_n _ _ w, en v w]; exact a4 v hv
            · intro v hv
              by_cases w : v = u
              · subst w; rw [eu]; omega
              · rw [en v w]; have := a5 v hv; omega
            · intro v hv
              by_cases w : v = u
              · subst w
                rw [eu]
                right
                rcases a6 c hc10 with z | ⟨a, z1, z2⟩
                · exact absurd z g
                · refine ⟨a, z1, ?_⟩
                  have e : D c + 1 - 1 = (D c - 1) + 1 := by omega
                  rw [e]
                  exact ⟨c, z2, ee⟩
              · rw [en v w]; exact a6 v hv
            · intro v; exact Nat.le_trans (a7 v) (le v)
            · intro c' u' q1 q2 q3 q4 q5
              by_cases w : 10 * c' + u' = i
              · have w1 : c' = c := by omega
                have w2 : u' = u := by omega
                subst w1; subst w2
                rw [eu]; have := a7 c'; omega
              · exact Nat.le_trans (a8 c' u' q1 q2 (by omega) q4 q5) (le u')
      · refine skip (by simp only [fX6_mayHold_l152, fX6_mayHold_b229, e100, c1, c2, c3, ed, if_true, if_false, nI_1]) (fun w => absurd w ee)
    · rintro ⟨T, y⟩ ⟨a1, a2, a3, a4⟩
      simp only at a1 a2 a3 a4
      subst a3
      have c1 : nI 100 ≤ nI 100 := Int32.le_refl _
      exact ⟨(T, nI 100), by simp only [fX6_mayHold_l152, e100, c1, if_true], a1, a2, a4⟩
  obtain ⟨y, k1, k2, k3, D, k4, k5, k6, k7, k8⟩ := key
  exact ⟨y, k1, k2, k3, D, k4, k5, k6, k7, fun c u h1 h2 => k8 c u h1 h2 (by omega)⟩
def Cmp (E : Nat → Nat → Prop) (S : Nat → Prop) (r : Nat) (D : Nat → Nat) : Prop := ∀ k a u, k ≤ r → S a → Wk E k a u → k + 1 ≤ D u
theorem rounds {m : MS} {E : Nat → Nat → Prop} {S : Nat → Prop} {D0 : Nat → Nat} (x3 x4 : Int32) (hbE : ∀ a b, E a b → a < 10 ∧ b < 10) (hS : ∀ a, S a → a < 10) (hE : EdgeIs m E) (hD : DIs m D0) (hb : ∀ u, u < 10 → D0 u ≤ 1) (hs : Snd E S D0) (hc : ∀ a, S a → 1 ≤ D0 a) : ∃ y, loopN (fun (s : MS × Int32) => fX6_mayHold_l142 x3 x4 s.1 s.2) fuelN (m, (0 : Int32)) = some y ∧ FrA y.1 m ∧ MS_edge y.1 = MS_edge m ∧ ∃ D, DIs y.1 D ∧ (∀ u, u < 10 → D u ≤ 1 + 100 * 11) ∧ Snd E S D ∧ Cmp E S 11 D := by
  have e11 : (11 : Int32) = nI 11 := rfl
  refine loop_f (fun (i : Nat) (s : MS × Int32) => FrA s.1 m ∧ MS_edge s.1 = MS_edge m ∧ s.2 = nI i ∧ ∃ D, DIs s.1 D ∧ (∀ u, u < 10 → D u ≤ 1 + 100 * i) ∧ Snd E S D ∧ Cmp E S i D) _ 11 (by omega) ⟨FrA_rf m, rfl, rfl, D0, hD, hb, hs, fun k a u h1 h2 h3 => ?_⟩ ?_ ?_
  · have : k = 0 := by omega
    subst this
    have e : a = u := h3
    subst e
    have := hc a h2; omega
  · rintro i ⟨T, y⟩ hi ⟨a1, a2, a3, D, a4, a5, a6, a7⟩
    simp only at a1 a2 a3 a4
    subst a3
    left
    have c1 : ¬ nI 11 ≤ nI i := by rw [nI_leI (by omega) (by omega)]; omega
    obtain ⟨w, w1, w2, w3, D', w4, w5, w6, w7, w8⟩ := relax (m := T) x3 x4 (nI i) (by omega : 1 + 100 * i < 5000) (EdgeIs_fr hE a2) a4 a5 a6
    refine ⟨(w.1, nI (i + 1)), by simp only [fX6_mayHold_l142, e11, c1, w1, Option.bind_some, if_false, nI_1], FrA_tr w2 a1, w3.trans a2, rfl, D', w4, fun u hu => by have := w5 u hu; omega, w6, fun k a u h1 h2 h3 => ?_⟩
    by_cases g : k ≤ i
    · exact Nat.le_trans (a7 k a u g h2 h3) (w7 u)
    · have ek : k = i + 1 := by omega
      subst ek
      obtain ⟨c, g1, g2⟩ := h3
      have g3 := a7 i a c (Nat.le_refl _) h2 g1
      have g4 := w8 c u (hbE c u g2).1 (hbE c u g2).2 g2 (by omega)
      omega
  · rintro ⟨T, y⟩ ⟨a1, a2, a3, a4⟩
    simp only at a1 a2 a3 a4
    subst a3
    have c1 : nI 11 ≤ nI 11 := Int32.le_refl _
    exact ⟨(T, nI 11), by simp only [fX6_mayHold_l142, e11, c1, if_true], a1, a2, a4⟩
