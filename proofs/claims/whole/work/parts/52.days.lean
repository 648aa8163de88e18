/-! days -/
theorem sum10_split (f : Nat → Nat) (a : Nat) : ∀ b, sum10 f (a + b) = sum10 f a + sum10 (fun j => f (a + j)) b
  | 0 => rfl
  | b + 1 => by
    show sum10 f (a + b) + f (a + b) = sum10 f a + (sum10 (fun j => f (a + j)) b + f (a + b))
    rw [sum10_split f a b, Nat.add_assoc]
theorem sum10_const (c : Nat) : ∀ b, sum10 (fun _ => c) b = c * b
  | 0 => rfl
  | b + 1 => by
    show sum10 (fun _ => c) b + c = c * (b + 1)
    rw [sum10_const c b, Nat.mul_add, Nat.mul_one]
theorem ds_step {g : Nat → Nat} {lo a b c : Nat} (h1 : lo ≤ a) (h2 : a ≤ b) (h : ∀ d, a ≤ d → d < b → g d = c) : sum10 (fun j => g (lo + j)) (b - lo) = sum10 (fun j => g (lo + j)) (a - lo) + c * (b - a) := by
  have e : b - lo = (a - lo) + (b - a) := by omega
  rw [e, sum10_split]
  congr 1
  rw [← sum10_const c (b - a)]
  exact sum10_congr _ (fun j hj => h _ (by omega) (by omega))
theorem IsSp_more {n a d s : Nat} {C : Nat → Ent} (h : IsSp n C a s) (h1 : a ≤ d) (h2 : ∀ i, s ≤ i → i < n → d < (C i).2.2.2) : IsSp n C d s :=
  ⟨h.1, fun i hi => by have := h.2.1 i hi; omega, h2⟩
theorem sumC {u n lo hi v : Nat} {C M : Nat → Ent} {H0 : HS} {sp : Nat → Nat} (hE : EntRel u n C M) (hu : u ≤ 10) (hC : HoldC n C H0) (hS : SpanOk n C H0) (hsp : ∀ d, d < 3650 → IsSp n C d (sp d)) (hlo : lo ≤ hi) (hhi : hi < 3650) (hv : v < 10) : ∃ H', fX1_sharesSummed H0 (nI v) (nI lo) (nI hi) = some (lN (sum10 (fun j => shrN (matN C (sp (lo + j))) v) (hi + 1 - lo)), H') ∧ HoldC n C H' ∧ SpanOk n C H' := by
  have hn := hE.1
  have s0 := hsp lo (by omega)
  have bC := (entB hE hu).1
  have srt := hE.2.2.2.2.2.2.1
  have key : ∃ y, loopN (fun (s : HS × Int64 × Int32 × Int32) => fX1_sharesSummed_l13 (nI v) (nI hi) s.1 s.2.1 s.2.2.1 s.2.2.2) fuelN (H0, (0 : Int64), nI lo, nI (sp lo)) = some y ∧ HoldC n C y.1 ∧ SpanOk n C y.1 ∧ y.2.1 = lN (sum10 (fun j => shrN (matN C (sp (lo + j))) v) (hi + 1 - lo)) := by
    refine loop_f (fun (i : Nat) (s : HS × Int64 × Int32 × Int32) => HoldC n C s.1 ∧ SpanOk n C s.1 ∧ s.2.2.2 = nI (sp lo + i) ∧ ∃ a, lo ≤ a ∧ a ≤ hi + 1 ∧ s.2.2.1 = nI a ∧ s.2.1 = lN (sum10 (fun j => shrN (matN C (sp (lo + j))) v) (a - lo)) ∧ (a = hi + 1 ∨ (sp lo + i ≤ n ∧ ∀ j, j < sp lo + i → (C j).2.2.2 ≤ a))) _ (n + 1 - sp lo) (by omega) ⟨hC, hS, rfl, lo, Nat.le_refl _, by omega, rfl, by rw [Nat.sub_self]; rfl, Or.inr ⟨s0.1, s0.2.1⟩⟩ ?_ ?_
    · rintro i ⟨H, x, y, z⟩ hi' ⟨a1, a2, a3, a, a4, a5, a6, a7, a8⟩
      simp only at a1 a2 a3 a6 a7
      subst a3; subst a6; subst a7
      left
      have hsn := s0.1
      obtain ⟨s, es⟩ : ∃ s, s = sp lo + i := ⟨_, rfl⟩
      have es1 : nI (sp lo + i) + 1 = nI (sp lo + (i + 1)) := nI_1 _
      rw [← es] at a8 es1 ⊢
      have c1 : ¬ nI n < nI s := by rw [nI_ltI (by omega) (by omega)]; omega
      have step : ∀ e, e ≤ hi → (∀ w, fX1_sharesSummed_l13 (nI v) (nI hi) H w (nI a) (nI s) = fX1_sharesSummed_b48 H (nI v) (nI hi) w (nI a) (nI s) (nI e)) → (∀ j, s ≤ j → j < n → e < (C j).2.2.2) → (e = hi ∨ (s + 1 ≤ n ∧ ∀ j, j < s + 1 → (C j).2.2.2 ≤ e + 1)) → ∃ s' : HS × Int64 × Int32 × Int32, fX1_sharesSummed_l13 (nI v) (nI hi) H (lN (sum10 (fun j => shrN (matN C (sp (lo + j))) v) (a - lo))) (nI a) (nI s) = some (.inl s') ∧ HoldC n C s'.1 ∧ SpanOk n C s'.1 ∧ s'.2.2.2 = nI (sp lo + (i + 1)) ∧ ∃ a, lo ≤ a ∧ a ≤ hi + 1 ∧ s'.2.2.1 = nI a ∧ s'.2.1 = lN (sum10 (fun j => shrN (matN C (sp (lo + j))) v) (a - lo)) ∧ (a = hi + 1 ∨ (sp lo + (i + 1) ≤ n ∧ ∀ j, j < sp lo + (i + 1) → (C j).2.2.2 ≤ a)) := by
        intro e he h1 h2 h3
        have es2 : sp lo + (i + 1) = s + 1 := by omega
        by_cases g : e < a
        · have q : nI e < nI a := nI_lt g (by omega)
          refine ⟨(H, lN (sum10 (fun j => shrN (matN C (sp (lo + j))) v) (a - lo)), nI a, nI (sp lo + (i + 1))), by simp only [h1, fX1_sharesSummed_b48, fX1_sharesSummed_b84, q, if_true, es1], a1, a2, rfl, a, a4, a5, rfl, rfl, ?_⟩
          rw [es2]
          rcases h3 with h3 | h3
          · exact Or.inl (by omega)
          · refine Or.inr ⟨h3.1, fun j hj => ?_⟩
            have := h3.2 j hj
            omega
        · have q : ¬ nI e < nI a := by rw [nI_ltI (by omega) (by omega)]; exact g
          have a9 := a8.resolve_left (by omega)
          obtain ⟨H', t1, t2, t3⟩ := shareIn_eq a1 hE hu a2 a9.1 hv
          have e1 : nI e - nI a + 1 = nI (e + 1 - a) := by rw [pk_sub (by omega), nI_1]; congr 1; omega
          have e2 : Int32.toInt64 (nI (e + 1 - a)) = lN (e + 1 - a) := nI_l (by omega)
          have ds := ds_step (g := fun d => shrN (matN C (sp d)) v) (lo := lo) (a := a) (b := e + 1) (c := shrN (matN C s) v) a4 (by omega) (by
            intro d d1 d2
            show shrN (matN C (sp d)) v = _
            have : IsSp n C d s := ⟨a9.1, fun j hj => by have := a9.2 j hj; omega, fun j j1 j2 => by have := h2 j j1 j2; omega⟩
            rw [IsSp_one (hsp d (by omega)) this])
          refine ⟨(H', _, nI (e + 1), nI (sp lo + (i + 1))), by simp only [h1, fX1_sharesSummed_b48, fX1_sharesSummed_b84, q, if_false, t1, Option.bind_some, e1, e2, lN_mul, lN_add, es1, nI_1]; rfl, HoldC_fr a1 t2, t3, rfl, e + 1, by omega, by omega, rfl, ?_, ?_⟩
          · show lN _ = lN _
            congr 1
            exact ds.symm
          · rw [es2]
            rcases h3 with h3 | h3
            · exact Or.inl (by omega)
            · exact Or.inr h3
      by_cases g : s = n
      · have c2 : nI n ≤ nI s := by rw [g]; exact Int32.le_refl _
        exact step hi (Nat.le_refl _) (fun w => by simp only [fX1_sharesSummed_l13, a1.1, c1, c2, if_true, if_false]) (fun j j1 j2 => by omega) (Or.inl rfl)
      · have c2 : ¬ nI n ≤ nI s := by rw [nI_leI (by omega) (by omega)]; omega
        have c3 : inb (nI s) 100 = true := inb_nI (by omega) (by omega)
        have c4 : (nI s).toNatClampNeg = s := nI_clamp (by omega)
        have dv := (a1.2 s (by omega)).2.2.2
        have db := (bC s (by omega)).2.2.1
        by_cases g0 : (C s).2.2.2 = 0
        · have m1 : nI 0 - 1 < nI hi := by
            rw [Int32.lt_iff_toInt_lt, nI_toInt (by omega)]
            have : (nI 0 - 1).toInt = -1 := by decide
            omega
          have m2 : nI 0 - 1 < nI a := by
            rw [Int32.lt_iff_toInt_lt, nI_toInt (by omega)]
            have : (nI 0 - 1).toInt = -1 := by decide
            omega
          refine ⟨(H, lN (sum10 (fun j => shrN (matN C (sp (lo + j))) v) (a - lo)), nI a, nI (sp lo + (i + 1))), by simp only [fX1_sharesSummed_l13, a1.1, c1, c2, c3, c4, dv, g0, m1, fX1_sharesSummed_b48, fX1_sharesSummed_b84, m2, if_true, if_false, es1], a1, a2, rfl, a, a4, a5, rfl, rfl, ?_⟩
          rcases a8 with a8 | a8
          · exact Or.inl a8
          · refine Or.inr ⟨by omega, fun j hj => ?_⟩
            by_cases w : j = s
            · subst w; omega
            · exact a8.2 j (by omega)
        · obtain ⟨e, ee⟩ : ∃ e, (C s).2.2.2 = e + 1 := ⟨(C s).2.2.2 - 1, by omega⟩
          have ep : nI (e + 1) - 1 = nI e := nI_pred e
          have far : ∀ j, s ≤ j → j < n → e + 1 ≤ (C j).2.2.2 := by
            intro j j1 j2
            by_cases w : j = s
            · subst w; omega
            · have := srt s j (by omega) j2; omega
          by_cases g1 : e < hi
          · have q : nI e < nI hi := nI_lt g1 (by omega)
            refine step e (by omega) (fun w => by simp only [fX1_sharesSummed_l13, a1.1, c1, c2, c3, c4, dv, ee, ep, q, if_true, if_false]) (fun j j1 j2 => by have := far j j1 j2; omega) (Or.inr ⟨by omega, fun j hj => ?_⟩)
            by_cases w : j = s
            · subst w; omega
            · have := srt j s (by omega) (by omega); omega
          · have q : ¬ nI e < nI hi := by rw [nI_ltI (by omega) (by omega)]; exact g1
            exact step hi (Nat.le_refl _) (fun w => by simp only [fX1_sharesSummed_l13, a1.1, c1, c2, c3, c4, dv, ee, ep, q, if_true, if_false]) (fun j j1 j2 => by have := far j j1 j2; omega) (Or.inl rfl)
    · rintro ⟨H, x, y, z⟩ ⟨a1, a2, a3, a, a4, a5, a6, a7, a8⟩
      simp only at a1 a2 a3 a6 a7
      subst a3; subst a6; subst a7
      have hsn := s0.1
      have c1 : nI n < nI (sp lo + (n + 1 - sp lo)) := nI_lt (by omega) (by omega)
      have ea : a = hi + 1 := by
        rcases a8 with a8 | a8
        · exact a8
        · omega
      subst ea
      exact ⟨_, by simp only [fX1_sharesSummed_l13, a1.1, c1, if_true]; rfl, a1, a2, rfl⟩
  obtain ⟨y, k1, k2, k3, k4⟩ := key
  exact ⟨y.1, by simp only [fX1_sharesSummed, spC hC hE hu (by omega) s0, Option.bind_some, k1, k4], k2, k3⟩
theorem nxtM {n a hi : Nat} {M : Nat → Ent} {T : MS} (x1 : Int32) (x4 : Int64) (hn : n ≤ 100) (hM : HoldM n M T) (hb : ∀ i, i < n → (M i).2.2.2 < 3650) (ha : a ≤ hi) (hhi : hi < 3650) : ∃ y, loopN (fun (s : Int32 × Int32) => fX6_days_l60 T x1 (nI hi) x4 (nI a) s.1 s.2) fuelN (nI (hi + 1), (0 : Int32)) = some y ∧ ∃ b, y.1 = nI b ∧ a < b ∧ b ≤ hi + 1 ∧ ∀ j, j < n → (M j).2.2.2 ≤ a ∨ b ≤ (M j).2.2.2 := by
  refine loop_f (fun (i : Nat) (s : Int32 × Int32) => s.2 = nI i ∧ ∃ b, s.1 = nI b ∧ a < b ∧ b ≤ hi + 1 ∧ ∀ j, j < i → (M j).2.2.2 ≤ a ∨ b ≤ (M j).2.2.2) _ n (by omega) ⟨zero_nI, hi + 1, rfl, by omega, Nat.le_refl _, fun j hj => by omega⟩ ?_ ?_
  · rintro i ⟨x, y⟩ hi' ⟨a1, b, a2, a3, a4, a5⟩
    simp only at a1 a2
    subst a1; subst a2
    left
    have c1 : ¬ nI n ≤ nI i := by rw [nI_leI (by omega) (by omega)]; omega
    have c2 : inb (nI i) 100 = true := inb_nI (by omega) (by omega)
    have c3 : (nI i).toNatClampNeg = i := nI_clamp (by omega)
    have dv := (hM.2 i hi').2.2.2
    have db := hb i hi'
    by_cases g : (M i).2.2.2 ≤ a
    · have q : nI (M i).2.2.2 ≤ nI a := nI_le g (by omega)
      refine ⟨(nI b, nI (i + 1)), by simp only [fX6_days_l60, fX6_days_b103, fX6_days_b105, hM.1, c1, c2, c3, dv, q, if_true, if_false, nI_1], rfl, b, rfl, a3, a4, fun j hj => ?_⟩
      by_cases w : j = i
      · subst w; exact Or.inl g
      · exact a5 j (by omega)
    · have q : ¬ nI (M i).2.2.2 ≤ nI a := by rw [nI_leI (by omega) (by omega)]; exact g
      by_cases g2 : b ≤ (M i).2.2.2
      · have q2 : nI b ≤ nI (M i).2.2.2 := nI_le g2 (by omega)
        refine ⟨(nI b, nI (i + 1)), by simp only [fX6_days_l60, fX6_days_b103, fX6_days_b105, hM.1, c1, c2, c3, dv, q, q2, if_true, if_false, nI_1], rfl, b, rfl, a3, a4, fun j hj => ?_⟩
        by_cases w : j = i
        · subst w; exact Or.inr g2
        · exact a5 j (by omega)
      · have q2 : ¬ nI b ≤ nI (M i).2.2.2 := by rw [nI_leI (by omega) (by omega)]; exact g2
        refine ⟨(nI (M i).2.2.2, nI (i + 1)), by simp only [fX6_days_l60, fX6_days_b103, fX6_days_b105, hM.1, c1, c2, c3, dv, q, q2, if_true, if_false, nI_1], rfl, (M i).2.2.2, rfl, by omega, by omega, fun j hj => ?_⟩
        by_cases w : j = i
        · subst w; exact Or.inr (Nat.le_refl _)
        · rcases a5 j (by omega) with h | h
          · exact Or.inl h
          · exact Or.inr (by omega)
  · rintro ⟨x, y⟩ ⟨a1, b, a2, a3, a4, a5⟩
    simp only at a1 a2
    subst a1; subst a2
    have c1 : nI n ≤ nI n := Int32.le_refl _
    exact ⟨(nI b, nI n), by simp only [fX6_days_l60, hM.1, c1, if_true], b, rfl, a3, a4, a5⟩
theorem sumM {u n lo hi v : Nat} {C M : Nat → Ent} {H0 : HS} {T0 m : MS} {sp : Nat → Nat} (hE : EntRel u n C M) (hu : u ≤ 10) (hC : HoldC n C H0) (hM : HoldM n M m) (f0 : FrA T0 m) (hsp : ∀ d, d < 3650 → IsSp n C d (sp d)) (hlo : lo ≤ hi) (hhi : hi < 3650) (hv : v < 10) : ∃ y, loopN (fun (s : MS × Int64 × Int32) => fX6_days_l46 (nI v) (nI hi) s.1 s.2.1 s.2.2) fuelN (T0, (0 : Int64), nI lo) = some y ∧ FrA y.1 m ∧ y.2.1 = lN (sum10 (fun j => shrN (matN C (sp (lo + j))) v) (hi + 1 - lo)) := by
  have hn := hE.1
  have bM := (entB hE hu).2
  have cv : inb (nI v) 10 = true := inb_nI hv (by omega)
  have dv : (nI v).toNatClampNeg = v := nI_clamp (by omega)
  refine loop_f (fun (i : Nat) (s : MS × Int64 × Int32) => FrA s.1 m ∧ ∃ a, lo + i ≤ a ∧ a ≤ hi + 1 ∧ s.2.2 = nI a ∧ s.2.1 = lN (sum10 (fun j => shrN (matN C (sp (lo + j))) v) (a - lo))) _ (hi + 1 - lo) (by omega) ⟨f0, lo, Nat.le_refl _, by omega, rfl, by rw [Nat.sub_self]; rfl⟩ ?_ ?_
  · rintro i ⟨T, x, y⟩ hi' ⟨a1, a, a2, a3, a4, a5⟩
    simp only at a1 a4 a5
    subst a4; subst a5
    by_cases g : a = hi + 1
    · right
      subst g
      have c1 : nI hi < nI (hi + 1) := nI_lt (by omega) (by omega)
      exact ⟨_, by simp only [fX6_days_l46, c1, if_true]; rfl, a1, rfl⟩
    · left
      have c1 : ¬ nI hi < nI a := by rw [nI_ltI (by omega) (by omega)]; omega
      obtain ⟨w, w1, b, w2, w3, w4, w5⟩ := nxtM (T := T) (a := a) (hi := hi) (nI v) (lN (sum10 (fun j => shrN (matN C (sp (lo + j))) v) (a - lo))) hn (HoldM_fr hM a1) (fun i hi => (bM i hi).2.2.1) (by omega) hhi
      have sa := hsp a (by omega)
      obtain ⟨T1, t1, t2, t3⟩ := shB hC hM hE hu (by omega) sa a1
      have e1 : nI b - nI a = nI (b - a) := pk_sub (by omega)
      have e2 : Int32.toInt64 (nI (b - a)) = lN (b - a) := nI_l (by omega)
      have ds := ds_step (g := fun d => shrN (matN C (sp d)) v) (lo := lo) (a := a) (b := b) (c := shrN (matN C (sp a)) v) (by omega) (by omega) (by
        intro d d1 d2
        show shrN (matN C (sp d)) v = _
        have : IsSp n C d (sp a) := IsSp_more sa d1 (fun j j1 j2 => by
          obtain ⟨l, l1, l2⟩ := hE.2.2.1 j j2
          have p := sa.2.2 j j1 j2
          have q := w5 l l1
          rw [l2] at q
          omega)
        rw [IsSp_one (hsp d (by omega)) this])
      refine ⟨(T1, _, nI b), by simp only [fX6_days_l46, c1, nI_1, w1, Option.bind_some, w2, t1, cv, dv, t3 v hv, e1, e2, lN_mul, lN_add, if_true, if_false]; rfl, t2, b, by omega, w4, rfl, ?_⟩
      show lN _ = lN _
      congr 1
      exact ds.symm
  · rintro ⟨T, x, y⟩ ⟨a1, a, a2, a3, a4, a5⟩
    simp only at a1 a4 a5
    subst a4; subst a5
    have ea : a = hi + 1 := by omega
    subst ea
    have c1 : nI hi < nI (hi + 1) := nI_lt (by omega) (by omega)
    exact ⟨_, by simp only [fX6_days_l46, c1, if_true]; rfl, a1, rfl⟩
theorem st_days {k : Nat} {lst : LG} {mst : MS} (hR : Rel k lst mst) (hk : k < 512) (z1 z2 z3 : Int32) : ∃ (r : Int64) (lst2 : LG) (mst2 : MS), fX5_days lst z1 z2 z3 = some (r, lst2) ∧ fX6_days mst z1 z2 z3 = some (r, mst2) ∧ Rel (k + 1) lst2 mst2 := by
  have hR0 := hR
  obtain ⟨u, hu1, hu2, hl, hm, hRow, hF, h7, h8⟩ := hR
  have hm' : MS_units (MS_thrown_s mst 0) = nI u := hm
  have good : ∀ v : Int64, fX5_days lst z1 z2 z3 = some (v, lst) → fX6_days mst z1 z2 z3 = some (v, MS_thrown_s mst 0) → ∃ (r : Int64) (lst2 : LG) (mst2 : MS), fX5_days lst z1 z2 z3 = some (r, lst2) ∧ fX6_days mst z1 z2 z3 = some (r, mst2) ∧ Rel (k + 1) lst2 mst2 := fun v h1 h2 => ⟨v, _, _, h1, h2, Rel_up (Rel_thr hR0)⟩
  by_cases c1 : inb z1 u = true
  case neg => exact good (-1) (by simp [fX5_days, isUnit_eq hl hu2, c1]) (by simp [fX6_days, bnd, noUnit_eq hm' hu1 hu2, c1])
  by_cases c2 : inb z2 3650 = true
  case neg => exact good (-2) (by simp [fX5_days, isUnit_eq hl hu2, c1, isDay_eq, c2]) (by simp [fX6_days, bnd, noUnit_eq hm' hu1 hu2, c1, noDay_eq, c2])
  by_cases c3 : inb z3 3650 = true
  case neg => exact good (-2) (by simp [fX5_days, isUnit_eq hl hu2, c1, isDay_eq, c2, c3]) (by simp [fX6_days, bnd, noUnit_eq hm' hu1 hu2, c1, noDay_eq, c2, c3])
  by_cases c4 : z2 ≤ z3
  case neg => exact good (-2) (by simp [fX5_days, isUnit_eq hl hu2, c1, isDay_eq, c2, c3, c4]) (by simp [fX6_days, bnd, noUnit_eq hm' hu1 hu2, c1, noDay_eq, c2, c3, c4])
  obtain ⟨n, C, M, hC, hM, hE, hSp⟩ := h7
  obtain ⟨v, hv, rfl⟩ := inb_of c1 (by omega)
  obtain ⟨lo, hlo, rfl⟩ := inb_of c2 (by omega)
  obtain ⟨hi, hhi, rfl⟩ := inb_of c3 (by omega)
  have c5 : lo ≤ hi := (nI_leI (by omega) (by omega)).mp c4
  have spe : ∀ d, ∃ s, d < 3650 → IsSp n C d s := by
    intro d
    by_cases h : d < 3650
    · obtain ⟨s, hs, -⟩ := IsSp_ex hC hE hu2 h
      exact ⟨s, fun _ => hs⟩
    · exact ⟨0, fun w => absurd w h⟩
  obtain ⟨sp, hsp⟩ : ∃ sp : Nat → Nat, ∀ d, d < 3650 → IsSp n C d (sp d) := ⟨fun d => Classical.choose (spe d), fun d => Classical.choose_spec (spe d)⟩
  obtain ⟨H', t1, t2, t3⟩ := sumC hE hu2 hC hSp hsp c5 hhi (by omega : v < 10)
  obtain ⟨y, w1, w2, w3⟩ := sumM hE hu2 hC hM (FrA_s_thrown (FrA_rf mst) 0) hsp c5 hhi (by omega : v < 10)
  refine ⟨lN (sum10 (fun j => shrN (matN C (sp (lo + j))) v) (hi + 1 - lo)), LG_mk H' (LG_R lst) (LG_F lst) (LG_S lst) (LG_units lst), y.1, ?_, ?_, Rel_up (Rel_fr (Rel_frL hR0 hM hl hu2 hE ⟨rfl, rfl, rfl, rfl, t2, t3⟩) w2)⟩
  · simp [fX5_days, isUnit_eq hl hu2, c1, isDay_eq, c2, c3, c4, t1]
  · simp [fX6_days, bnd, noUnit_eq hm' hu1 hu2, c1, noDay_eq, c2, c3, c4, w1, w3]
