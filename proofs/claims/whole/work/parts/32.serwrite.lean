/-! runs are inserted, marked, joined -/
def insF {α : Type} (p : Nat) (x : α) (f : Nat → α) (j : Nat) : α := if j < p then f j else if j = p then x else f (j - 1)
theorem ins_cpy {p sz : Nat} (hp : p ≤ sz) (x : Int32) (f : Nat → Int32) {j : Nat} (hj : j ≤ sz) : upd (va_cpy f f p (p + 1) (sz - p)) p x j = insF p x f j := by
  unfold insF
  by_cases h1 : j < p
  · rw [if_pos h1, upd_n _ _ (by omega), pk_cpy_out (by omega)]
  · rw [if_neg h1]
    by_cases h2 : j = p
    · subst h2; rw [if_pos rfl, upd_s]
    · rw [if_neg h2, upd_n _ _ h2, pk_cpy_in (by omega) (by omega)]
      congr 1; omega
theorem okc_nI {a b n n0 n1 : Nat} (ha : a < 2 ^ 31) (hb : b < 2 ^ 31) (hn : n < 2 ^ 31) (h1 : a + n ≤ n0) (h2 : b + n ≤ n1) : okc (nI a) (nI b) (nI n) n0 n1 = true := by
  rw [okc_iff, nI_clamp ha, nI_clamp hb, nI_clamp hn]
  exact ⟨nI_pos ha, nI_pos hb, nI_pos hn, h1, h2⟩
theorem ins63 {S : SS} {sz p : Nat} (hs : SS_size S = nI sz) (h1 : sz < SS_cap S) (h2 : SS_cap S ≤ 2048) (hp : p ≤ sz) (x o r : Int32) : ∃ S', fX3_insertRun_b63 S (nI p) x o r = some S' ∧ SS_size S' = nI (sz + 1) ∧ SS_issued S' = SS_issued S ∧ SS_cap S' = SS_cap S ∧ (∀ j, j ≤ sz → SS_first S' j = insF p x (SS_first S) j ∧ SS_owner S' j = insF p o (SS_owner S) j ∧ SS_row S' j = insF p r (SS_row S) j) := by
  have e1 : nI p + 1 = nI (p + 1) := nI_1 p
  have e2 : nI sz - nI p = nI (sz - p) := pk_sub hp
  have c1 : okc (nI p) (nI (p + 1)) (nI (sz - p)) (SS_cap S) (SS_cap S) = true := okc_nI (by omega) (by omega) (by omega) (by omega) (by omega)
  have c2 : inb (nI p) (SS_cap S) = true := inb_nI (by omega) (by omega)
  have k1 : (nI p).toNatClampNeg = p := nI_clamp (by omega)
  have k2 : (nI (p + 1)).toNatClampNeg = p + 1 := nI_clamp (by omega)
  have k3 : (nI (sz - p)).toNatClampNeg = sz - p := nI_clamp (by omega)
  refine ⟨SS_size_s (SS_row_s (SS_owner_s (SS_first_s S (upd (va_cpy (SS_first S) (SS_first S) p (p + 1) (sz - p)) p x)) (upd (va_cpy (SS_owner S) (SS_owner S) p (p + 1) (sz - p)) p o)) (upd (va_cpy (SS_row S) (SS_row S) p (p + 1) (sz - p)) p r)) (nI (sz + 1)), ?_, rfl, rfl, rfl, ?_⟩
  · simp only [fX3_insertRun_b63, hs, e1, e2, c1, c2, k1, k2, k3, if_true, nI_1]
  · intro j hj
    exact ⟨ins_cpy hp x _ hj, ins_cpy hp o _ hj, ins_cpy hp r _ hj⟩
theorem growA_eq {f : Nat → Int32} {len : Nat} {n2 : Nat} (h1 : len ≤ n2) (h2 : n2 < 2 ^ 31) {j : Nat} (hj : j < len) : growA f len (nI n2) j = f j := by
  unfold growA
  have c : ¬ nI n2 < Int32.ofNat len := by show ¬ nI n2 < nI len; rw [nI_ltI h2 (by omega)]; omega
  have e : (Int32.ofNat len).toNatClampNeg = len := nI_clamp (n := len) (by omega)
  rw [if_neg c, e]
  have z : (0 : Int32).toNatClampNeg = 0 := rfl
  rw [z, pk_cpy_in (by omega) (by omega)]
  simp
theorem insertRun_eq {S : SS} {sz p : Nat} (hs : SS_size S = nI sz) (h1 : sz ≤ SS_cap S) (h0 : 16 ≤ SS_cap S) (h2 : SS_cap S ≤ 2048) (hsz : sz ≤ 1023) (hp : p ≤ sz) (x o r : Int32) : ∃ S', fX3_insertRun S (nI p) x o r = some S' ∧ SS_size S' = nI (sz + 1) ∧ SS_issued S' = SS_issued S ∧ sz + 1 ≤ SS_cap S' ∧ 16 ≤ SS_cap S' ∧ SS_cap S' ≤ 2048 ∧ (∀ j, j ≤ sz → SS_first S' j = insF p x (SS_first S) j ∧ SS_owner S' j = insF p o (SS_owner S) j ∧ SS_row S' j = insF p r (SS_row S) j) := by
  unfold fX3_insertRun
  by_cases c : sz < SS_cap S
  · have c' : SS_size S < Int32.ofNat (SS_cap S) := by rw [hs]; exact nI_lt c (by omega)
    obtain ⟨S', a, b, d, e, f⟩ := ins63 hs c h2 hp x o r
    exact ⟨S', by rw [if_pos c', a], b, d, by omega, by omega, by omega, f⟩
  · have hc : SS_cap S = sz := by omega
    have c' : ¬ SS_size S < Int32.ofNat (SS_cap S) := by rw [hs, hc]; exact Int32.lt_irrefl
    have e2 : SS_size S * 2 = nI (sz * 2) := by rw [hs, show (2 : Int32) = nI 2 from rfl, pk_mul]
    have k : (nI (sz * 2)).toNatClampNeg = sz * 2 := nI_clamp (by omega)
    have g : growOk S = true := by
      rw [growOk_iff, e2, k]
      refine ⟨by omega, nI_pos (by omega), by omega, ?_⟩
      show ¬ nI (sz * 2) = nI (SS_cap S)
      rw [nI_eq (by omega) (by omega)]; omega
    have gs : SS_size (SS_grow S) = nI sz := hs
    have gi : SS_issued (SS_grow S) = SS_issued S := rfl
    have gc : SS_cap (SS_grow S) = sz * 2 := by show (SS_size S * 2).toNatClampNeg = _; rw [e2, k]
    have gf : ∀ j, j < sz → SS_first (SS_grow S) j = SS_first S j ∧ SS_owner (SS_grow S) j = SS_owner S j ∧ SS_row (SS_grow S) j = SS_row S j := by
      intro j hj
      refine ⟨?_, ?_, ?_⟩
      · show growA (SS_first S) (SS_cap S) (SS_size S * 2) j = _; rw [e2]; exact growA_eq (by omega) (by omega) (by omega)
      · show growA (SS_owner S) (SS_cap S) (SS_size S * 2) j = _; rw [e2]; exact growA_eq (by omega) (by omega) (by omega)
      · show growA (SS_row S) (SS_cap S) (SS_size S * 2) j = _; rw [e2]; exact growA_eq (by omega) (by omega) (by omega)
    obtain ⟨S', a, b, d, e, f⟩ := ins63 gs (by omega) (by omega) hp x o r
    refine ⟨S', by rw [if_neg c', if_pos g, a], b, by rw [d, gi], by omega, by omega, by omega, fun j hj => ?_⟩
    obtain ⟨f1, f2, f3⟩ := f j hj
    rw [f1, f2, f3]
    unfold insF
    by_cases q1 : j < p
    · have := gf j (by omega)
      simp only [if_pos q1, this.1, this.2.1, this.2.2, and_self]
    · by_cases q2 : j = p
      · simp only [if_neg q1, if_pos q2, and_self]
      · have := gf (j - 1) (by omega)
        simp only [if_neg q1, if_neg q2, this.1, this.2.1, this.2.2, and_self]
theorem split_eq {sz t : Nat} {fs : Nat → Nat} {S : SS} {ow us : Nat → Int32} (h : RunsOk sz t fs S ow us) (hsz : sz ≤ 1023) {x : Nat} (h1 : 1 ≤ x) (h2 : x ≤ t + 1) : ∃ i S' sz' fs', fX3_splitBefore S (nI x) = some (nI i, S') ∧ RunsOk sz' t fs' S' ow us ∧ sz' ≤ sz + 1 ∧ i ≤ sz' ∧ fs' i = x ∧ (∀ j, j ≤ sz → fs j < x → fs' j = fs j) := by
  have sl := sz_le h
  obtain ⟨⟨p1, p2, p3, p4⟩, p5, p6, p7, p8, p9, p10, p11⟩ := id h
  unfold fX3_splitBefore
  rw [p10]
  by_cases c : x ≤ t
  case neg =>
    have c' : ¬ nI x ≤ nI t := by rw [nI_leI (by omega) (by omega)]; exact c
    exact ⟨sz, S, sz, fs, by rw [if_neg c', p9], h, by omega, Nat.le_refl _, by omega, fun _ _ _ => rfl⟩
  rw [if_pos (nI_le c (by omega))]
  obtain ⟨i, k1, k2, k3, k4⟩ := runWith_eq h h1 c
  have c1 : inb (nI i) (SS_cap S) = true := inb_nI (by omega) (by omega)
  have c2 : (nI i).toNatClampNeg = i := nI_clamp (by omega)
  have b1 := (fs_le h (i := i) (by omega)).2
  simp only [k4, Option.bind_some, c1, c2, if_true, p2 i k1]
  by_cases g : fs i = x
  · rw [if_pos (by rw [g])]
    exact ⟨i, S, sz, fs, rfl, h, by omega, by omega, g, fun _ _ _ => rfl⟩
  · rw [if_neg (by rw [nI_eq (by omega) (by omega)]; exact g), nI_1]
    obtain ⟨S', a1, a2, a3, a4, a5, a6, a7⟩ := insertRun_eq p9 p6 p7 p8 hsz (p := i + 1) (by omega) (nI x) (SS_owner S i) (SS_row S i)
    rw [a1]
    simp only [Option.bind_some]
    refine ⟨i + 1, S', sz + 1, insF (i + 1) x fs, rfl, ⟨⟨?_, ?_, ?_, ?_⟩, ?_, a4, a5, a6, a2, by rw [a3, p10], p11⟩, Nat.le_refl _, by omega, ?_, ?_⟩
    · simp [insF, p1]
    · intro j hj
      rw [(a7 j (by omega)).1]
      unfold insF
      by_cases q1 : j < i + 1
      · rw [if_pos q1, if_pos q1]; exact p2 j (by omega)
      · rw [if_neg q1, if_neg q1]
        by_cases q2 : j = i + 1
        · rw [if_pos q2, if_pos q2]
        · rw [if_neg q2, if_neg q2]; exact p2 (j - 1) (by omega)
    · intro j hj
      unfold insF
      by_cases q1 : j + 1 < i + 1
      · rw [if_pos (by omega), if_pos q1]; exact p3 j (by omega)
      · by_cases q2 : j = i
        · subst q2; rw [if_pos (by omega), if_neg q1, if_pos rfl]; omega
        · by_cases q3 : j = i + 1
          · subst q3
            rw [if_neg (by omega), if_pos rfl, if_neg (by omega), if_neg (by omega)]
            simpa using k3
          · rw [if_neg (by omega), if_neg q3, if_neg q1, if_neg (by omega)]
            have := p3 (j - 1) (by omega)
            rw [show j - 1 + 1 = j by omega] at this
            simpa using this
    · intro j hj y hy1 hy2
      rw [(a7 j (by omega)).2.1, (a7 j (by omega)).2.2]
      unfold insF at *
      by_cases q1 : j + 1 < i + 1
      · rw [if_pos (by omega)] at hy1
        rw [if_pos q1] at hy2
        rw [if_pos (by omega), if_pos (by omega)]
        exact p4 j (by omega) y hy1 hy2
      · by_cases q2 : j = i
        · subst q2
          rw [if_pos (by omega)] at hy1
          rw [if_neg q1, if_pos rfl] at hy2
          rw [if_pos (by omega), if_pos (by omega)]
          exact p4 j k1 y hy1 (by omega)
        · by_cases q3 : j = i + 1
          · subst q3
            rw [if_neg (by omega), if_pos rfl] at hy1
            rw [if_neg (by omega), if_neg (by omega)] at hy2
            rw [if_neg (by omega), if_pos rfl, if_neg (by omega), if_pos rfl]
            exact p4 i k1 y (by omega) (by simpa using hy2)
          · rw [if_neg (by omega), if_neg q3] at hy1
            rw [if_neg q1, if_neg (by omega)] at hy2
            rw [if_neg (by omega), if_neg q3, if_neg (by omega), if_neg q3]
            exact p4 (j - 1) (by omega) y hy1 (by rw [show j - 1 + 1 = j by omega]; simpa using hy2)
    · unfold insF
      rw [if_neg (by omega), if_neg (by omega)]
      simpa using p5
    · simp [insF]
    · intro j hj hjx
      unfold insF
      rw [if_pos]
      rcases Nat.lt_or_ge j (i + 1) with r | r
      · exact r
      · have := fs_mono p3 j hj (i + 1) r; omega
theorem mark_loop {S : SS} {i1 i2 sz : Nat} (o r : Int32) (h1 : i1 ≤ i2) (h2 : i2 ≤ sz) (h3 : sz ≤ SS_cap S) (h4 : SS_cap S ≤ 2048) : ∃ y, loopN (fun (s : SS × Int32) => fX3_mark_l20 o r (nI i2) s.1 s.2) fuelN (S, nI i1) = some y ∧ SS_first y.1 = SS_first S ∧ SS_size y.1 = SS_size S ∧ SS_issued y.1 = SS_issued S ∧ SS_cap y.1 = SS_cap S ∧ (∀ j, SS_owner y.1 j = if i1 ≤ j ∧ j < i2 then o else SS_owner S j) ∧ (∀ j, SS_row y.1 j = if i1 ≤ j ∧ j < i2 then r else SS_row S j) := by
  refine loop_f (fun i s => SS_first s.1 = SS_first S ∧ SS_size s.1 = SS_size S ∧ SS_issued s.1 = SS_issued S ∧ SS_cap s.1 = SS_cap S ∧ (∀ j, SS_owner s.1 j = if i1 ≤ j ∧ j < i1 + i then o else SS_owner S j) ∧ (∀ j, SS_row s.1 j = if i1 ≤ j ∧ j < i1 + i then r else SS_row S j) ∧ s.2 = nI (i1 + i)) _ (i2 - i1) (by omega) ⟨rfl, rfl, rfl, rfl, fun j => by rw [if_neg (by omega)], fun j => by rw [if_neg (by omega)], rfl⟩ ?_ ?_
  · rintro i ⟨T, x⟩ hi ⟨a1, a2, a3, a4, a5, a6, a7⟩
    simp only at a1 a2 a3 a4 a5 a6 a7
    subst a7
    left
    have c1 : ¬ nI i2 ≤ nI (i1 + i) := by rw [nI_leI (by omega) (by omega)]; omega
    have c2 : inb (nI (i1 + i)) (SS_cap T) = true := inb_nI (by omega) (by omega)
    have c3 : (nI (i1 + i)).toNatClampNeg = i1 + i := nI_clamp (by omega)
    refine ⟨(SS_row_s (SS_owner_s T (upd (SS_owner T) (i1 + i) o)) (upd (SS_row T) (i1 + i) r), nI (i1 + i + 1)), ?_, a1, a2, a3, a4, ?_, ?_, rfl⟩
    · simp only [fX3_mark_l20, c1, c2, c3, if_true, if_false, nI_1]
    · intro j
      show upd (SS_owner T) (i1 + i) o j = _
      by_cases q : j = i1 + i
      · subst q; rw [upd_s, if_pos (by omega)]
      · rw [upd_n _ _ q, a5]
        by_cases q2 : i1 ≤ j ∧ j < i1 + i
        · rw [if_pos q2, if_pos (by omega)]
        · rw [if_neg q2, if_neg (by omega)]
    · intro j
      show upd (SS_row T) (i1 + i) r j = _
      by_cases q : j = i1 + i
      · subst q; rw [upd_s, if_pos (by omega)]
      · rw [upd_n _ _ q, a6]
        by_cases q2 : i1 ≤ j ∧ j < i1 + i
        · rw [if_pos q2, if_pos (by omega)]
        · rw [if_neg q2, if_neg (by omega)]
  · rintro ⟨T, x⟩ ⟨a1, a2, a3, a4, a5, a6, a7⟩
    simp only at a1 a2 a3 a4 a5 a6 a7
    subst a7
    have e : i1 + (i2 - i1) = i2 := by omega
    rw [e] at a5 a6 ⊢
    have c1 : nI i2 ≤ nI i2 := Int32.le_refl _
    exact ⟨(T, nI i2), by simp only [fX3_mark_l20, c1, if_true], a1, a2, a3, a4, a5, a6⟩
def gsU (gs : Nat → Nat) (k v : Nat) : Nat → Nat := fun j => if j = k then v else gs j
theorem gsU_s (gs : Nat → Nat) (k v : Nat) : gsU gs k v k = v := if_pos rfl
theorem gsU_n (gs : Nat → Nat) {k : Nat} (v : Nat) {j : Nat} (h : j ≠ k) : gsU gs k v j = gs j := if_neg h
theorem join_eq {sz t : Nat} {fs : Nat → Nat} {S : SS} {ow us : Nat → Int32} (h : RunsOk sz t fs S ow us) : ∃ S' sz' gs, fX3_joinAlike S = some S' ∧ RunsOk sz' t gs S' ow us ∧ sz' ≤ sz ∧ AdjP (SS_owner S') (SS_row S') sz' := by
  have sl := sz_le h
  obtain ⟨⟨p1, p2, p3, p4⟩, p5, p6, p7, p8, p9, p10, p11⟩ := id h
  have key : ∃ y, loopN (fun (s : SS × Int32 × Int32) => fX3_joinAlike_l4 s.1 s.2.1 s.2.2) fuelN (S, (0 : Int32), (0 : Int32)) = some y ∧ ∃ kp gs, y.2.1 = nI kp ∧ kp ≤ sz ∧ SS_cap y.1 = SS_cap S ∧ SS_issued y.1 = SS_issued S ∧ RunP (SS_first y.1) (SS_owner y.1) (SS_row y.1) kp gs ow us ∧ gs kp = fs sz ∧ AdjP (SS_owner y.1) (SS_row y.1) kp := by
    refine loop_f (fun i s => ∃ kp gs, s.2.1 = nI kp ∧ s.2.2 = nI i ∧ kp ≤ i ∧ (0 < i → 0 < kp) ∧ SS_size s.1 = nI sz ∧ SS_cap s.1 = SS_cap S ∧ SS_issued s.1 = SS_issued S ∧ (∀ j, i ≤ j → SS_first s.1 j = SS_first S j ∧ SS_owner s.1 j = SS_owner S j ∧ SS_row s.1 j = SS_row S j) ∧ RunP (SS_first s.1) (SS_owner s.1) (SS_row s.1) kp gs ow us ∧ gs kp = fs i ∧ AdjP (SS_owner s.1) (SS_row s.1) kp) _ sz (by omega) ⟨0, fun _ => 1, rfl, rfl, Nat.le_refl _, fun q => by omega, p9, rfl, rfl, fun j _ => ⟨rfl, rfl, rfl⟩, ⟨rfl, fun i hi => by omega, fun i hi => by omega, fun i hi => by omega⟩, p1.symm, fun i hi => by omega⟩ ?_ ?_
    · rintro i ⟨T, x1, x2⟩ hi ⟨kp, gs, a1, a2, a3, a4, a5, a6, a7, a8, ⟨g1, g2, g3, g4⟩, a10, a11⟩
      simp only at a1 a2 a5 a6 a7 a8 g2 g4 a11
      subst a1; subst a2
      left
      have c1 : ¬ nI sz ≤ nI i := by rw [nI_leI (by omega) (by omega)]; omega
      have c2 : inb (nI i) (SS_cap T) = true := inb_nI (by omega) (by omega)
      have c3 : (nI i).toNatClampNeg = i := nI_clamp (by omega)
      have c4 : inb (nI kp) (SS_cap T) = true := inb_nI (by omega) (by omega)
      have c5 : (nI kp).toNatClampNeg = kp := nI_clamp (by omega)
      have hli := p3 i hi
      have e8 := a8 i (Nat.le_refl _)
      -- a new run is kept
      have keep : (0 < kp → SS_owner T (kp - 1) ≠ SS_owner T i ∨ SS_row T (kp - 1) ≠ SS_row T i) → ∀ Z, Z = SS_row_s (SS_owner_s (SS_first_s T (upd (SS_first T) kp (SS_first T i))) (upd (SS_owner T) kp (SS_owner T i))) (upd (SS_row T) kp (SS_row T i)) → ∃ kp' gs', nI (kp + 1) = nI kp' ∧ nI (i + 1) = nI (i + 1) ∧ kp' ≤ i + 1 ∧ (0 < i + 1 → 0 < kp') ∧ SS_size Z = nI sz ∧ SS_cap Z = SS_cap S ∧ SS_issued Z = SS_issued S ∧ (∀ j, i + 1 ≤ j → SS_first Z j = SS_first S j ∧ SS_owner Z j = SS_owner S j ∧ SS_row Z j = SS_row S j) ∧ RunP (SS_first Z) (SS_owner Z) (SS_row Z) kp' gs' ow us ∧ gs' kp' = fs (i + 1) ∧ AdjP (SS_owner Z) (SS_row Z) kp' := by
        intro hd Z hZ
        have z1 : SS_first Z = upd (SS_first T) kp (SS_first T i) := by rw [hZ]; rfl
        have z2 : SS_owner Z = upd (SS_owner T) kp (SS_owner T i) := by rw [hZ]; rfl
        have z3 : SS_row Z = upd (SS_row T) kp (SS_row T i) := by rw [hZ]; rfl
        refine ⟨kp + 1, gsU gs (kp + 1) (fs (i + 1)), rfl, rfl, by omega, fun _ => by omega, by rw [hZ]; exact a5, by rw [hZ]; exact a6, by rw [hZ]; exact a7, ?_, ⟨?_, ?_, ?_, ?_⟩, gsU_s _ _ _, ?_⟩
        · intro j hj
          rw [z1, z2, z3, upd_n _ _ (by omega), upd_n _ _ (by omega), upd_n _ _ (by omega)]
          exact a8 j (by omega)
        · rw [gsU_n _ _ (by omega)]; exact g1
        · intro j hj
          rw [z1]
          by_cases q : j = kp
          · subst q; rw [upd_s, e8.1, p2 i hi, gsU_n _ _ (by omega), a10]
          · rw [upd_n _ _ q, gsU_n _ _ (by omega)]; exact g2 j (by omega)
        · intro j hj
          by_cases q : j = kp
          · subst q; rw [gsU_n _ _ (by omega), gsU_s, a10]; exact hli
          · rw [gsU_n _ _ (by omega), gsU_n _ _ (by omega)]; exact g3 j (by omega)
        · intro j hj x hx1 hx2
          rw [z2, z3]
          by_cases q : j = kp
          · subst q
            rw [gsU_n _ _ (by omega), a10] at hx1
            rw [gsU_s] at hx2
            rw [upd_s, upd_s, e8.2.1, e8.2.2]
            exact p4 i hi x hx1 hx2
          · rw [gsU_n _ _ (by omega)] at hx1
            rw [gsU_n _ _ (by omega)] at hx2
            rw [upd_n _ _ q, upd_n _ _ q]
            exact g4 j (by omega) x hx1 hx2
        · intro j hj
          rw [z2, z3]
          by_cases q : j + 1 = kp
          · have := hd (by omega)
            rw [← q, upd_n _ _ (by omega), upd_s, upd_n _ _ (by omega), upd_s]
            rw [← q] at this
            simpa using this
          · rw [upd_n _ _ (by omega), upd_n _ _ q, upd_n _ _ (by omega), upd_n _ _ q]
            exact a11 j (by omega)
      have b50 : fX3_joinAlike_b50 T (nI kp) (nI i) = some (.inl (SS_row_s (SS_owner_s (SS_first_s T (upd (SS_first T) kp (SS_first T i))) (upd (SS_owner T) kp (SS_owner T i))) (upd (SS_row T) kp (SS_row T i)), nI (kp + 1), nI (i + 1))) := by
        simp only [fX3_joinAlike_b50, fX3_joinAlike_b89, c2, c3, c4, c5, if_true, nI_1]
      by_cases k0 : kp = 0
      · have t0 : nI kp = 0 := by rw [k0]; rfl
        refine ⟨(SS_row_s (SS_owner_s (SS_first_s T (upd (SS_first T) kp (SS_first T i))) (upd (SS_owner T) kp (SS_owner T i))) (upd (SS_row T) kp (SS_row T i)), nI (kp + 1), nI (i + 1)), ?_, keep (fun q => by omega) _ rfl⟩
        show fX3_joinAlike_l4 T (nI kp) (nI i) = _
        unfold fX3_joinAlike_l4
        rw [a5, if_neg c1, if_pos t0, b50]
      · have t0 : ¬ nI kp = 0 := by rw [zero_nI, nI_eq (by omega) (by omega)]; exact k0
        have ek : nI kp - 1 = nI (kp - 1) := by rw [one_nI]; exact pk_sub (by omega)
        have c6 : inb (nI (kp - 1)) (SS_cap T) = true := inb_nI (by omega) (by omega)
        have c7 : (nI (kp - 1)).toNatClampNeg = kp - 1 := nI_clamp (by omega)
        by_cases q1 : SS_owner T (kp - 1) = SS_owner T i
        · by_cases q2 : SS_row T (kp - 1) = SS_row T i
          · have hlk := g3 (kp - 1) (by omega)
            rw [show kp - 1 + 1 = kp by omega] at hlk
            refine ⟨(T, nI kp, nI (i + 1)), ?_, kp, gsU gs kp (fs (i + 1)), rfl, rfl, by omega, fun _ => by omega, a5, a6, a7, fun j hj => a8 j (by omega), ⟨?_, ?_, ?_, ?_⟩, gsU_s _ _ _, a11⟩
            · show fX3_joinAlike_l4 T (nI kp) (nI i) = _
              simp only [fX3_joinAlike_l4, fX3_joinAlike_b89, a5, c1, t0, ek, c2, c3, c6, c7, q1, q2, if_true, if_false, nI_1]
            · rw [gsU_n _ _ (by omega)]; exact g1
            · intro j hj
              rw [gsU_n _ _ (by omega)]; exact g2 j hj
            · intro j hj
              rw [gsU_n _ _ (by omega)]
              by_cases r : j + 1 = kp
              · rw [r, gsU_s]; have := g3 j hj; rw [r] at this; omega
              · rw [gsU_n _ _ r]; exact g3 j hj
            · intro j hj x hx1 hx2
              rw [gsU_n _ _ (by omega)] at hx1
              by_cases r : j + 1 = kp
              · rw [r, gsU_s] at hx2
                have ej : j = kp - 1 := by omega
                by_cases w : x < gs kp
                · exact g4 j hj x hx1 (by rw [r]; exact w)
                · have := p4 i hi x (by omega) hx2
                  rw [ej, q1, q2, e8.2.1, e8.2.2]
                  exact this
              · rw [gsU_n _ _ r] at hx2
                exact g4 j hj x hx1 hx2
          · refine ⟨(SS_row_s (SS_owner_s (SS_first_s T (upd (SS_first T) kp (SS_first T i))) (upd (SS_owner T) kp (SS_owner T i))) (upd (SS_row T) kp (SS_row T i)), nI (kp + 1), nI (i + 1)), ?_, keep (fun _ => Or.inr q2) _ rfl⟩
            show fX3_joinAlike_l4 T (nI kp) (nI i) = _
            simp only [fX3_joinAlike_l4, a5, c1, t0, ek, c2, c3, c6, c7, q1, q2, if_true, if_false, b50]
        · refine ⟨(SS_row_s (SS_owner_s (SS_first_s T (upd (SS_first T) kp (SS_first T i))) (upd (SS_owner T) kp (SS_owner T i))) (upd (SS_row T) kp (SS_row T i)), nI (kp + 1), nI (i + 1)), ?_, keep (fun _ => Or.inl q1) _ rfl⟩
          show fX3_joinAlike_l4 T (nI kp) (nI i) = _
          simp only [fX3_joinAlike_l4, a5, c1, t0, ek, c2, c3, c6, c7, q1, if_true, if_false, b50]
    · rintro ⟨T, x1, x2⟩ ⟨kp, gs, a1, a2, a3, a4, a5, a6, a7, a8, a9, a10, a11⟩
      simp only at a1 a2 a5 a6 a7 a8 a9 a11
      subst a1; subst a2
      have c1 : nI sz ≤ nI sz := Int32.le_refl _
      exact ⟨(T, nI kp, nI sz), by simp only [fX3_joinAlike_l4, a5, c1, if_true], kp, gs, rfl, a3, a6, a7, a9, a10, a11⟩
  obtain ⟨⟨T, y1, y2⟩, k1, kp, gs, k2, k3, k4, k5, k6, k7, k8⟩ := key
  simp only at k2 k4 k5 k6 k8
  subst k2
  exact ⟨SS_size_s T (nI kp), kp, gs, by simp only [fX3_joinAlike, k1, Option.bind_some], ⟨k6, by rw [k7, p5], by show kp ≤ SS_cap T; omega, by show 16 ≤ SS_cap T; omega, by show SS_cap T ≤ 2048; omega, rfl, by show SS_issued T = _; rw [k5, p10], p11⟩, k3, k8⟩
theorem mark_eq {sz t : Nat} {fs : Nat → Nat} {S : SS} {ow us : Nat → Int32} (h : RunsOk sz t fs S ow us) (hsz : sz ≤ 1022) {a b : Nat} (h1 : 1 ≤ a) (hb : 1 ≤ b) (h2 : a + b ≤ t + 1) (o r : Int32) : ∃ S' sz' gs, fX3_mark S (nI a) (nI b) o r = some S' ∧ RunsOk sz' t gs S' (fun x => if a ≤ x ∧ x < a + b then o else ow x) (fun x => if a ≤ x ∧ x < a + b then r else us x) ∧ sz' ≤ sz + 2 ∧ AdjP (SS_owner S') (SS_row S') sz' := by
  obtain ⟨i1, S1, sz1, f1, a1, a2, a3, a4, a5, a6⟩ := split_eq h (by omega) h1 (show a ≤ t + 1 by omega)
  obtain ⟨i2, S2, sz2, f2, b1, b2, b3, b4, b5, b6⟩ := split_eq a2 (by omega) (x := a + b) (by omega) h2
  have e1 : f2 i1 = a := by rw [b6 i1 a4 (by omega), a5]
  have m1 : i1 ≤ i2 := by
    rcases Nat.lt_or_ge i2 i1 with q | q
    · have := fs_mono b2.1.2.2.1
      have hi1 : i1 ≤ sz2 := by
        rcases Nat.lt_or_ge sz2 i1 with w | w
        · exfalso
          have s1 := sz_le a2
          -- the second split keeps at least as many runs
          have l1 := fs_mono a2.1.2.2.1 i1 a4 i2 (by omega)
          have l2 : f1 i2 < a + b := by omega
          have := b6 i2 (by omega) l2
          omega
        · exact w
      have := fs_mono b2.1.2.2.1 i1 hi1 i2 (by omega)
      omega
    · exact q
  obtain ⟨y, c1, c2, c3, c4, c5, c6, c7⟩ := mark_loop (S := S2) (sz := sz2) o r m1 b4 b2.2.2.1 b2.2.2.2.2.1
  have hy : RunsOk sz2 t f2 y.1 (fun x => if a ≤ x ∧ x < a + b then o else ow x) (fun x => if a ≤ x ∧ x < a + b then r else us x) := by
    obtain ⟨⟨p1, p2, p3, p4⟩, p5, p6, p7, p8, p9, p10, p11⟩ := id b2
    refine ⟨⟨p1, by rw [c2]; exact p2, p3, ?_⟩, p5, by omega, by omega, by omega, by rw [c3, p9], by rw [c4, p10], p11⟩
    intro i hi x hx1 hx2
    rw [c6, c7]
    have v := p4 i hi x hx1 hx2
    by_cases q : i1 ≤ i ∧ i < i2
    · have l1 := fs_mono p3 i (by omega) i1 q.1
      have l2 := fs_mono p3 i2 b4 (i + 1) (by omega)
      have w : a ≤ x ∧ x < a + b := by omega
      simp only [if_pos q, if_pos w, and_self]
    · have w : ¬ (a ≤ x ∧ x < a + b) := by
        rcases Nat.lt_or_ge i i1 with g | g
        · have l1 := fs_mono p3 i1 (by omega) (i + 1) (by omega); omega
        · have l1 := fs_mono p3 i (by omega) i2 (by omega); omega
      simp only [if_neg q, if_neg w]
      exact v
  obtain ⟨S', sz', gs, d1, d2, d3, d4⟩ := join_eq hy
  refine ⟨S', sz', gs, ?_, d2, by omega, d4⟩
  simp only [fX3_mark, a1, Option.bind_some, nI_add, b1, c1, d1]
