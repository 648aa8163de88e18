/-! a holding is told -/
theorem place_eq {H : HS} {n a b d : Nat} {C : Nat → Ent} (hC : HoldC n C H) (hn : n ≤ 100) (hb : ∀ i, i < n → (C i).1 < 10 ∧ (C i).2.1 < 10 ∧ (C i).2.2.2 < 3650) (ha : a < 10) (hb' : b < 10) (hd : d < 3650) : ∃ r, fX1_placeOf H (nI a) (nI b) (nI d) = some r ∧ ((∃ i, i < n ∧ r = nI i ∧ (C i).1 = a ∧ (C i).2.1 = b ∧ (C i).2.2.2 = d) ∨ (r = -9 ∧ ∀ i, i < n → (C i).1 = a → (C i).2.1 = b → (C i).2.2.2 = d → False)) := by
  have key : ∃ y, loopN (fun (s : Int32) => fX1_placeOf_l3 H (nI a) (nI b) (nI d) s) fuelN (0 : Int32) = some y ∧ ∃ r, Sum.elim (fun _ => some (-9 : Int32)) (fun v_ => some v_) y = some r ∧ ((∃ i, i < n ∧ r = nI i ∧ (C i).1 = a ∧ (C i).2.1 = b ∧ (C i).2.2.2 = d) ∨ (r = -9 ∧ ∀ i, i < n → (C i).1 = a → (C i).2.1 = b → (C i).2.2.2 = d → False)) := by
    refine loop_f (fun (i : Nat) (s : Int32) => s = nI i ∧ ∀ j, j < i → (C j).1 = a → (C j).2.1 = b → (C j).2.2.2 = d → False) _ n (by omega) ⟨rfl, fun j hj => by omega⟩ ?_ ?_
    · rintro i s hi ⟨rfl, h⟩
      obtain ⟨v1, v2, v3, v4⟩ := hC.2 i hi
      obtain ⟨b1, b2, b3⟩ := hb i hi
      have c1 : ¬ nI n ≤ nI i := by rw [nI_leI (by omega) (by omega)]; omega
      have c2 : inb (nI i) 100 = true := inb_nI (by omega) (by omega)
      have c3 : (nI i).toNatClampNeg = i := nI_clamp (by omega)
      have skip : fX1_placeOf_l3 H (nI a) (nI b) (nI d) (nI i) = some (.inl (nI (i + 1))) → ¬ ((C i).1 = a ∧ (C i).2.1 = b ∧ (C i).2.2.2 = d) → ∃ s', fX1_placeOf_l3 H (nI a) (nI b) (nI d) (nI i) = some (.inl s') ∧ s' = nI (i + 1) ∧ ∀ j, j < i + 1 → (C j).1 = a → (C j).2.1 = b → (C j).2.2.2 = d → False := by
        intro h1 h2
        refine ⟨_, h1, rfl, fun j hj q1 q2 q3 => ?_⟩
        by_cases w : j = i
        · subst w; exact h2 ⟨q1, q2, q3⟩
        · exact h j (by omega) q1 q2 q3
      by_cases g1 : (C i).1 = a
      · have q1 : nI (C i).1 = nI a := by rw [g1]
        by_cases g2 : (C i).2.1 = b
        · have q2 : nI (C i).2.1 = nI b := by rw [g2]
          by_cases g3 : (C i).2.2.2 = d
          · right
            have q3 : nI (C i).2.2.2 = nI d := by rw [g3]
            exact ⟨.inr (nI i), by simp only [fX1_placeOf_l3, hC.1, c1, c2, c3, v1, v2, v4, q1, q2, q3, if_true, if_false], nI i, rfl, Or.inl ⟨i, hi, rfl, g1, g2, g3⟩⟩
          · left
            have q3 : ¬ nI (C i).2.2.2 = nI d := by rw [nI_eq (by omega) (by omega)]; exact g3
            exact skip (by simp only [fX1_placeOf_l3, fX1_placeOf_b48, hC.1, c1, c2, c3, v1, v2, v4, q1, q2, q3, if_true, if_false, nI_1]) (fun w => g3 w.2.2)
        · left
          have q2 : ¬ nI (C i).2.1 = nI b := by rw [nI_eq (by omega) (by omega)]; exact g2
          exact skip (by simp only [fX1_placeOf_l3, fX1_placeOf_b48, hC.1, c1, c2, c3, v1, v2, q1, q2, if_true, if_false, nI_1]) (fun w => g2 w.2.1)
      · left
        have q1 : ¬ nI (C i).1 = nI a := by rw [nI_eq (by omega) (by omega)]; exact g1
        exact skip (by simp only [fX1_placeOf_l3, fX1_placeOf_b48, hC.1, c1, c2, c3, v1, q1, if_true, if_false, nI_1]) (fun w => g1 w.1)
    · rintro s ⟨rfl, h⟩
      have c1 : nI n ≤ nI n := Int32.le_refl _
      exact ⟨.inl (nI n), by simp only [fX1_placeOf_l3, hC.1, c1, if_true], -9, rfl, Or.inr ⟨rfl, h⟩⟩
  obtain ⟨y, k1, r, k2, k3⟩ := key
  exact ⟨r, by simp only [fX1_placeOf, k1, Option.bind_some]; exact k2, k3⟩
theorem forget_eq (H : HS) : ∃ T, fX1_forgetSpans H = some T ∧ FrH T H ∧ ∀ s, s ≤ 100 → HS_spanIsMade T s = 0 := by
  have e100 : (100 : Int32) = nI 100 := rfl
  have key : ∃ y, loopN (fun (s : HS × Int32) => fX1_forgetSpans_l2 s.1 s.2) fuelN (H, (0 : Int32)) = some y ∧ FrH y.1 H ∧ ∀ s, s ≤ 100 → HS_spanIsMade y.1 s = 0 := by
    refine loop_f (fun (i : Nat) (s : HS × Int32) => FrH s.1 H ∧ (∀ k, k < i → HS_spanIsMade s.1 k = 0) ∧ s.2 = nI i) _ 101 (by omega) ⟨FrH_rf H, fun k hk => by omega, zero_nI⟩ ?_ ?_
    · rintro i ⟨T, y⟩ hi ⟨a1, a2, a3⟩
      simp only at a1 a2 a3
      subst a3
      left
      have c1 : ¬ nI 100 < nI i := by rw [nI_ltI (by omega) (by omega)]; omega
      have c2 : inb (nI i) 101 = true := inb_nI hi (by omega)
      have c3 : (nI i).toNatClampNeg = i := nI_clamp (by omega)
      refine ⟨(HS_spanIsMade_s T (upd (HS_spanIsMade T) i 0), nI (i + 1)), by simp only [fX1_forgetSpans_l2, e100, c1, c2, c3, nar0, if_true, if_false, nI_1], a1, fun k hk => ?_, rfl⟩
      show upd (HS_spanIsMade T) i 0 k = 0
      by_cases w : k = i
      · subst w; exact upd_s _ _ _
      · rw [upd_n _ _ w]; exact a2 k (by omega)
    · rintro ⟨T, y⟩ ⟨a1, a2, a3⟩
      simp only at a1 a2 a3
      subst a3
      have c1 : nI 100 < nI 101 := by decide
      exact ⟨(T, nI 101), by simp only [fX1_forgetSpans_l2, e100, c1, if_true], a1, fun s hs => a2 s (by omega)⟩
  obtain ⟨y, k1, k2, k3⟩ := key
  exact ⟨y.1, by simp only [fX1_forgetSpans, k1, Option.bind_some], k2, k3⟩
def updE (C : Nat → Ent) (p : Nat) (e : Ent) : Nat → Ent := fun i => if i = p then e else C i
def insE (C : Nat → Ent) (s : Nat) (e : Ent) : Nat → Ent := fun i => if i < s then C i else if i = s then e else C (i - 1)
theorem updE_s (C : Nat → Ent) (p : Nat) (e : Ent) : updE C p e p = e := if_pos rfl
theorem updE_n (C : Nat → Ent) {p i : Nat} (e : Ent) (h : i ≠ p) : updE C p e i = C i := if_neg h
theorem ins_at {f : Nat → Int32} {s n i : Nat} {v : Int32} (hs : s ≤ n) (hi : i < n + 1) : upd (va_cpy f f s (s + 1) (n - s)) s v i = if i < s then f i else if i = s then v else f (i - 1) := by
  by_cases h1 : i < s
  · rw [if_pos h1, upd_n _ _ (by omega), pk_cpy_out (by omega)]
  · rw [if_neg h1]
    by_cases h2 : i = s
    · subst h2; rw [if_pos rfl, upd_s]
    · rw [if_neg h2, upd_n _ _ h2, pk_cpy_in (by omega) (by omega)]; congr 1; omega
theorem tell_old {H : HS} {n p a b h d : Nat} {C : Nat → Ent} (hC : HoldC n C H) (hn : n ≤ 100) {old : Int32} (h1 : fX1_heldOn H (nI a) (nI b) (nI d) = some old) (h2 : fX1_placeOf H (nI a) (nI b) (nI d) = some (nI p)) (hp : p < n) (k1 : (C p).1 = a) (k2 : (C p).2.1 = b) (k3 : (C p).2.2.2 = d) : ∃ T, fX1_tell H (nI a) (nI b) (nI h) (nI d) = some (old, T) ∧ HoldC n (updE C p (a, b, h, d)) T ∧ ∀ s, s ≤ 100 → HS_spanIsMade T s = 0 := by
  have c1 : ¬ nI p = -9 := nI_n9 (by omega)
  have c2 : inb (nI p) 100 = true := inb_nI (by omega) (by omega)
  have c3 : (nI p).toNatClampNeg = p := nI_clamp (by omega)
  obtain ⟨T, t1, t2, t3⟩ := forget_eq (HS_hundredths_s H (upd (HS_hundredths H) p (nI h)))
  refine ⟨T, by simp only [fX1_tell, fX1_tell_b78, h1, h2, Option.bind_some, c1, c2, c3, t1, if_true, if_false], HoldC_fr (H := HS_hundredths_s H (upd (HS_hundredths H) p (nI h))) ⟨hC.1, fun i hi => ?_⟩ t2, t3⟩
  obtain ⟨v1, v2, v3, v4⟩ := hC.2 i hi
  by_cases w : i = p
  · subst w
    rw [updE_s]
    refine ⟨v1.trans (by rw [k1]), v2.trans (by rw [k2]), ?_, v4.trans (by rw [k3])⟩
    show upd (HS_hundredths H) i (nI h) i = nI h
    exact upd_s _ _ _
  · rw [updE_n _ _ w]
    refine ⟨v1, v2, ?_, v4⟩
    show upd (HS_hundredths H) p (nI h) i = _
    rw [upd_n _ _ w]; exact v3
theorem tell_new {H : HS} {n s a b h d : Nat} {C : Nat → Ent} (hC : HoldC n C H) (hn : n < 100) (hs : s ≤ n) {old : Int32} (h1 : fX1_heldOn H (nI a) (nI b) (nI d) = some old) (h2 : fX1_placeOf H (nI a) (nI b) (nI d) = some (-9)) (h3 : fX1_spanOn H (nI d) = some (nI s)) : ∃ T, fX1_tell H (nI a) (nI b) (nI h) (nI d) = some (old, T) ∧ HoldC (n + 1) (insE C s (a, b, h, d)) T ∧ ∀ s, s ≤ 100 → HS_spanIsMade T s = 0 := by
  have c1 : nI n < (100 : Int32) := by rw [show (100 : Int32) = nI 100 from rfl, nI_ltI (by omega) (by omega)]; exact hn
  have c2 : inb (nI s) 100 = true := inb_nI (by omega) (by omega)
  have c3 : (nI s).toNatClampNeg = s := nI_clamp (by omega)
  have c4 : (nI (s + 1)).toNatClampNeg = s + 1 := nI_clamp (by omega)
  have c5 : (nI (n - s)).toNatClampNeg = n - s := nI_clamp (by omega)
  have e1 : nI n - nI s = nI (n - s) := pk_sub hs
  have ok : okc (nI s) (nI (s + 1)) (nI (n - s)) 100 100 = true := okc_nI (by omega) (by omega) (by omega) (by omega) (by omega)
  obtain ⟨P, hP⟩ : ∃ P, P = HS_size_s (HS_day_s (HS_hundredths_s (HS_held_s (HS_holder_s H (va_cpy (HS_holder H) (HS_holder H) s (s + 1) (n - s))) (va_cpy (HS_held H) (HS_held H) s (s + 1) (n - s))) (va_cpy (HS_hundredths H) (HS_hundredths H) s (s + 1) (n - s))) (va_cpy (HS_day H) (HS_day H) s (s + 1) (n - s))) (nI (n + 1)) := ⟨_, rfl⟩
  have mk : fX1_makeRoomAt H (nI s) = some P := by
    simp only [fX1_makeRoomAt, hC.1, e1, nI_1, ok, c3, c4, c5, if_true, ← hP]
  obtain ⟨Z, hZ⟩ : ∃ Z, Z = HS_hundredths_s (HS_day_s (HS_held_s (HS_holder_s P (upd (HS_holder P) s (nI a))) (upd (HS_held P) s (nI b))) (upd (HS_day P) s (nI d))) (upd (HS_hundredths P) s (nI h)) := ⟨_, rfl⟩
  have z0 : HS_size Z = nI (n + 1) := by rw [hZ, hP]; rfl
  have z1 : HS_holder Z = upd (va_cpy (HS_holder H) (HS_holder H) s (s + 1) (n - s)) s (nI a) := by rw [hZ, hP]; rfl
  have z2 : HS_held Z = upd (va_cpy (HS_held H) (HS_held H) s (s + 1) (n - s)) s (nI b) := by rw [hZ, hP]; rfl
  have z3 : HS_hundredths Z = upd (va_cpy (HS_hundredths H) (HS_hundredths H) s (s + 1) (n - s)) s (nI h) := by rw [hZ, hP]; rfl
  have z4 : HS_day Z = upd (va_cpy (HS_day H) (HS_day H) s (s + 1) (n - s)) s (nI d) := by rw [hZ, hP]; rfl
  obtain ⟨T, t1, t2, t3⟩ := forget_eq Z
  have b78 : fX1_tell_b78 (HS_day_s (HS_held_s (HS_holder_s P (upd (HS_holder P) s (nI a))) (upd (HS_held P) s (nI b))) (upd (HS_day P) s (nI d))) (nI h) old (nI s) = some (old, T) := by
    have e : HS_hundredths_s (HS_day_s (HS_held_s (HS_holder_s P (upd (HS_holder P) s (nI a))) (upd (HS_held P) s (nI b))) (upd (HS_day P) s (nI d))) (upd (HS_hundredths (HS_day_s (HS_held_s (HS_holder_s P (upd (HS_holder P) s (nI a))) (upd (HS_held P) s (nI b))) (upd (HS_day P) s (nI d)))) s (nI h)) = Z := by rw [hZ]; rfl
    simp only [fX1_tell_b78, c2, c3, e, t1, Option.bind_some, if_true]
  refine ⟨T, ?_, HoldC_fr ⟨z0, fun i hi => ?_⟩ t2, t3⟩
  · simp only [fX1_tell, h1, h2, h3, hC.1, c1, mk, Option.bind_some, c2, c3, if_true]
    exact b78
  · rw [z1, z2, z3, z4, ins_at hs hi, ins_at hs hi, ins_at hs hi, ins_at hs hi]
    unfold insE
    by_cases w : i < s
    · simp only [w, if_true]
      exact hC.2 i (by omega)
    · by_cases w2 : i = s
      · subst w2
        simp only [w, if_true, if_false]
        refine ⟨?_, ?_, ?_, ?_⟩ <;> first | trivial | rfl
      · simp only [w, w2, if_false]
        exact hC.2 (i - 1) (by omega)
/-! the holdings stay one -/
theorem ent_upd {u n p q a b h d : Nat} {C M : Nat → Ent} (hE : EntRel u n C M) (hp : p < n) (hq : q < n) (k1 : (C p).1 = a) (k2 : (C p).2.1 = b) (k3 : (C p).2.2.2 = d) (m1 : (M q).1 = a) (m2 : (M q).2.1 = b) (m3 : (M q).2.2.2 = d) (he : EntOk u (a, b, h, d)) {rk : Nat → Nat} (hr : ∀ i, i < n → 0 < (C i).2.2.1 → rk (C i).1 < rk (C i).2.1) (hr2 : 0 < h → rk a < rk b) : EntRel u n (updE C p (a, b, h, d)) (updE M q (a, b, h, d)) := by
  obtain ⟨e0, e1, e2, e3, e4, e5, e6, e7⟩ := hE
  have kc : ∀ i, (updE C p (a, b, h, d) i).1 = (C i).1 ∧ (updE C p (a, b, h, d) i).2.1 = (C i).2.1 ∧ (updE C p (a, b, h, d) i).2.2.2 = (C i).2.2.2 := by
    intro i
    by_cases w : i = p
    · subst w; rw [updE_s]; exact ⟨k1.symm, k2.symm, k3.symm⟩
    · rw [updE_n _ _ w]; exact ⟨rfl, rfl, rfl⟩
  have km : ∀ i, (updE M q (a, b, h, d) i).1 = (M i).1 ∧ (updE M q (a, b, h, d) i).2.1 = (M i).2.1 ∧ (updE M q (a, b, h, d) i).2.2.2 = (M i).2.2.2 := by
    intro i
    by_cases w : i = q
    · subst w; rw [updE_s]; exact ⟨m1.symm, m2.symm, m3.symm⟩
    · rw [updE_n _ _ w]; exact ⟨rfl, rfl, rfl⟩
  refine ⟨e0, fun i hi => ?_, fun i hi => ?_, fun j hj => ?_, fun i j hi hj h1 h2 h3 => ?_, fun i j hi hj h1 h2 h3 => ?_, fun i j hij hj => ?_, rk, fun i hi h1 => ?_⟩
  · by_cases w : i = p
    · subst w; rw [updE_s]; exact he
    · rw [updE_n _ _ w]; exact e1 i hi
  · by_cases w : i = p
    · subst w; exact ⟨q, hq, by rw [updE_s, updE_s]⟩
    · obtain ⟨j, j1, j2⟩ := e2 i hi
      refine ⟨j, j1, ?_⟩
      have : j ≠ q := by
        intro z
        subst z
        apply w
        exact e4 i p hi hp (by rw [← j2, m1, k1]) (by rw [← j2, m2, k2]) (by rw [← j2, m3, k3])
      rw [updE_n _ _ w, updE_n _ _ this, j2]
  · by_cases w : j = q
    · subst w; exact ⟨p, hp, by rw [updE_s, updE_s]⟩
    · obtain ⟨i, i1, i2⟩ := e3 j hj
      refine ⟨i, i1, ?_⟩
      have : i ≠ p := by
        intro z
        subst z
        apply w
        exact e5 j q hj hq (by rw [← i2, m1, k1]) (by rw [← i2, m2, k2]) (by rw [← i2, m3, k3])
      rw [updE_n _ _ w, updE_n _ _ this, i2]
  · rw [(kc i).1, (kc j).1] at h1
    rw [(kc i).2.1, (kc j).2.1] at h2
    rw [(kc i).2.2, (kc j).2.2] at h3
    exact e4 i j hi hj h1 h2 h3
  · rw [(km i).1, (km j).1] at h1
    rw [(km i).2.1, (km j).2.1] at h2
    rw [(km i).2.2, (km j).2.2] at h3
    exact e5 i j hi hj h1 h2 h3
  · rw [(kc i).2.2, (kc j).2.2]; exact e6 i j hij hj
  · by_cases w : i = p
    · subst w
      rw [updE_s] at h1 ⊢
      exact hr2 h1
    · rw [updE_n _ _ w] at h1 ⊢
      exact hr i hi h1
def shI (s i : Nat) : Nat := if i < s then i else i + 1
theorem insE_s (C : Nat → Ent) (s : Nat) (e : Ent) : insE C s e s = e := by
  unfold insE; rw [if_neg (Nat.lt_irrefl _), if_pos rfl]
theorem insE_sh (C : Nat → Ent) (s : Nat) (e : Ent) (i : Nat) : insE C s e (shI s i) = C i := by
  unfold insE shI
  by_cases w : i < s
  · rw [if_pos w, if_pos w]
  · rw [if_neg w, if_neg (by omega), if_neg (by omega), Nat.add_sub_cancel]
theorem sh_cases {s n i : Nat} (hs : s ≤ n) (hi : i < n + 1) : i = s ∨ ∃ j, j < n ∧ i = shI s j := by
  unfold shI
  rcases Nat.lt_trichotomy i s with w | w | w
  · exact Or.inr ⟨i, by omega, by rw [if_pos w]⟩
  · exact Or.inl w
  · exact Or.inr ⟨i - 1, by omega, by rw [if_neg (by omega)]; omega⟩
theorem sh_lt {s n j : Nat} (hj : j < n) : shI s j < n + 1 := by
  unfold shI; split <;> omega
theorem ent_ins {u n s a b h d : Nat} {C M : Nat → Ent} (hE : EntRel u n C M) (hn : n < 100) (hs : IsSp n C d s) (no : ∀ i, i < n → (C i).1 = a → (C i).2.1 = b → (C i).2.2.2 = d → False) (he : EntOk u (a, b, h, d)) {rk : Nat → Nat} (hr : ∀ i, i < n → 0 < (C i).2.2.1 → rk (C i).1 < rk (C i).2.1) (hr2 : 0 < h → rk a < rk b) : EntRel u (n + 1) (insE C s (a, b, h, d)) (updE M n (a, b, h, d)) := by
  obtain ⟨e0, e1, e2, e3, e4, e5, e6, e7⟩ := hE
  have noM : ∀ j, j < n → (M j).1 = a → (M j).2.1 = b → (M j).2.2.2 = d → False := by
    intro j hj q1 q2 q3
    obtain ⟨i, i1, i2⟩ := e3 j hj
    rw [← i2] at q1 q2 q3
    exact no i i1 q1 q2 q3
  refine ⟨by omega, fun i hi => ?_, fun i hi => ?_, fun j hj => ?_, fun i j hi hj h1 h2 h3 => ?_, fun i j hi hj h1 h2 h3 => ?_, fun i j hij hj => ?_, rk, fun i hi h1 => ?_⟩
  · rcases sh_cases hs.1 hi with rfl | ⟨j, j1, rfl⟩
    · rw [insE_s]; exact he
    · rw [insE_sh]; exact e1 j j1
  · rcases sh_cases hs.1 hi with rfl | ⟨j, j1, rfl⟩
    · exact ⟨n, by omega, by rw [insE_s, updE_s]⟩
    · obtain ⟨l, l1, l2⟩ := e2 j j1
      exact ⟨l, by omega, by rw [insE_sh, updE_n _ _ (by omega), l2]⟩
  · by_cases w : j = n
    · subst w; exact ⟨s, by have := hs.1; omega, by rw [insE_s, updE_s]⟩
    · obtain ⟨i, i1, i2⟩ := e3 j (by omega)
      exact ⟨shI s i, sh_lt i1, by rw [insE_sh, updE_n _ _ w, i2]⟩
  · rcases sh_cases hs.1 hi with rfl | ⟨i', i1, rfl⟩ <;> rcases sh_cases hs.1 hj with w | ⟨j', j1, rfl⟩
    · exact w.symm
    · rw [insE_s, insE_sh] at h1 h2 h3
      exact (no j' j1 h1.symm h2.symm h3.symm).elim
    · subst w
      rw [insE_s, insE_sh] at h1 h2 h3
      exact (no i' i1 h1 h2 h3).elim
    · rw [insE_sh, insE_sh] at h1 h2 h3
      rw [e4 i' j' i1 j1 h1 h2 h3]
  · by_cases wi : i = n <;> by_cases wj : j = n
    · omega
    · subst wi
      rw [updE_s, updE_n _ _ wj] at h1 h2 h3
      exact (noM j (by omega) h1.symm h2.symm h3.symm).elim
    · subst wj
      rw [updE_s, updE_n _ _ wi] at h1 h2 h3
      exact (noM i (by omega) h1 h2 h3).elim
    · rw [updE_n _ _ wi, updE_n _ _ wj] at h1 h2 h3
      exact e5 i j (by omega) (by omega) h1 h2 h3
  · rcases sh_cases hs.1 (by omega : i < n + 1) with rfl | ⟨i', i1, rfl⟩ <;> rcases sh_cases hs.1 hj with w | ⟨j', j1, rfl⟩
    · omega
    · rw [insE_s, insE_sh]
      have : i ≤ j' := by unfold shI at hij; split at hij <;> omega
      have := hs.2.2 j' this j1
      show d ≤ (C j').2.2.2
      omega
    · subst w
      rw [insE_s, insE_sh]
      have : i' < j := by unfold shI at hij; split at hij <;> omega
      exact hs.2.1 i' this
    · rw [insE_sh, insE_sh]
      have : i' < j' := by unfold shI at hij; split at hij <;> split at hij <;> omega
      exact e6 i' j' this j1
  · rcases sh_cases hs.1 hi with rfl | ⟨j, j1, rfl⟩
    · rw [insE_s] at h1 ⊢; exact hr2 h1
    · rw [insE_sh] at h1 ⊢; exact hr j j1 h1
