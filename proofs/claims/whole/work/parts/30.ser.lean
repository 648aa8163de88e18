/-! serials: runs and single serials -/
def RunP (first owner row : Nat → Int32) (sz : Nat) (fs : Nat → Nat) (ow us : Nat → Int32) : Prop := fs 0 = 1 ∧ (∀ i, i < sz → first i = nI (fs i)) ∧ (∀ i, i < sz → fs i < fs (i + 1)) ∧ (∀ i, i < sz → ∀ x, fs i ≤ x → x < fs (i + 1) → ow x = owner i ∧ us x = row i)
def RunsOk (sz t : Nat) (fs : Nat → Nat) (S : SS) (ow us : Nat → Int32) : Prop := RunP (SS_first S) (SS_owner S) (SS_row S) sz fs ow us ∧ fs sz = t + 1 ∧ sz ≤ SS_cap S ∧ 16 ≤ SS_cap S ∧ SS_cap S ≤ 2048 ∧ SS_size S = nI sz ∧ SS_issued S = nI t ∧ t ≤ 20000
def AdjP (owner row : Nat → Int32) (sz : Nat) : Prop := ∀ i, i + 1 < sz → owner i ≠ owner (i + 1) ∨ row i ≠ row (i + 1)
theorem SerRel_iff {k : Nat} {S : SS} {m : MS} : SerRel k S m ↔ ∃ sz t fs, sz ≤ 2 * k ∧ RunsOk sz t fs S (MS_owner m) (MS_used m) ∧ MS_serials m = nI t ∧ AdjP (SS_owner S) (SS_row S) sz := by
  constructor
  · rintro ⟨sz, t, fs, h1, h2, h3, h4, h5, h6, h7, h8, h9, h10, h11, h12, h13, h14⟩
    exact ⟨sz, t, fs, h1, ⟨⟨h11, h9, h12, h13⟩, h10, h2, h3, h4, h5, h6, h7⟩, h8, h14⟩
  · rintro ⟨sz, t, fs, h1, ⟨⟨h11, h9, h12, h13⟩, h10, h2, h3, h4, h5, h6, h7⟩, h8, h14⟩
    exact ⟨sz, t, fs, h1, h2, h3, h4, h5, h6, h7, h8, h9, h10, h11, h12, h13, h14⟩
theorem fs_mono {sz : Nat} {fs : Nat → Nat} (h : ∀ i, i < sz → fs i < fs (i + 1)) : ∀ j, j ≤ sz → ∀ i, i ≤ j → fs i + (j - i) ≤ fs j := by
  intro j
  induction j with
  | zero => intro _ i hi; have : i = 0 := by omega
            subst this; simp
  | succ j ih =>
    intro hj i hi
    by_cases q : i = j + 1
    · subst q; simp
    · have a := ih (by omega) i (by omega)
      have b := h j (by omega)
      omega
theorem fs_loc {sz : Nat} {fs : Nat → Nat} (h0 : fs 0 = 1) : ∀ n, n ≤ sz → ∀ x, 1 ≤ x → x < fs n → ∃ i, i < n ∧ fs i ≤ x ∧ x < fs (i + 1) := by
  intro n
  induction n with
  | zero => intro _ x h1 h2; omega
  | succ n ih =>
    intro hn x h1 h2
    by_cases q : x < fs n
    · obtain ⟨i, a, b, c⟩ := ih (by omega) x h1 q
      exact ⟨i, by omega, b, c⟩
    · exact ⟨n, by omega, by omega, h2⟩
theorem sz_le {sz t : Nat} {fs : Nat → Nat} {S : SS} {ow us : Nat → Int32} (h : RunsOk sz t fs S ow us) : sz ≤ t := by
  have := fs_mono h.1.2.2.1 sz (Nat.le_refl _) 0 (Nat.zero_le _)
  have h0 := h.1.1
  have h1 := h.2.1
  omega
theorem fs_le {sz t : Nat} {fs : Nat → Nat} {S : SS} {ow us : Nat → Int32} (h : RunsOk sz t fs S ow us) {i : Nat} (hi : i ≤ sz) : 1 + i ≤ fs i ∧ fs i ≤ t + 1 := by
  have a := fs_mono h.1.2.2.1 i hi 0 (Nat.zero_le _)
  have b := fs_mono h.1.2.2.1 sz (Nat.le_refl _) i hi
  have h0 := h.1.1
  have h1 := h.2.1
  omega
theorem runWith_eq {sz t : Nat} {fs : Nat → Nat} {S : SS} {ow us : Nat → Int32} (h : RunsOk sz t fs S ow us) {x : Nat} (h1 : 1 ≤ x) (h2 : x ≤ t) : ∃ i, i < sz ∧ fs i ≤ x ∧ x < fs (i + 1) ∧ fX3_runWith S (nI x) = some (nI i) := by
  have hsz : 0 < sz := by
    rcases Nat.eq_zero_or_pos sz with q | q
    · have a := h.2.1; have b := h.1.1; rw [q] at a; omega
    · exact q
  have hs := sz_le h
  obtain ⟨⟨p1, p2, p3, p4⟩, p5, p6, p7, p8, p9, p10, p11⟩ := id h
  have key : ∃ r, loopN (fun (s : Int32) => fX3_runWith_l2 S (nI x) s) fuelN (0 : Int32) = some r ∧ ∃ i, i < sz ∧ fs i ≤ x ∧ x < fs (i + 1) ∧ r = nI i := by
    refine loop_f (fun i s => s = nI i ∧ i < sz ∧ fs i ≤ x) _ sz (by omega) ⟨rfl, hsz, by omega⟩ ?_ ?_
    · rintro i s hi ⟨rfl, h3, h4⟩
      have e1 : nI i + 1 = nI (i + 1) := nI_1 i
      by_cases q : sz ≤ i + 1
      · right
        have q2 : nI sz ≤ nI (i + 1) := nI_le q (by omega)
        refine ⟨nI i, by simp only [fX3_runWith_l2, p9, e1, q2, if_true], i, h3, h4, ?_, rfl⟩
        have : i + 1 = sz := by omega
        rw [this, p5]; omega
      · have q2 : ¬ nI sz ≤ nI (i + 1) := by rw [nI_leI (by omega) (by omega)]; omega
        have q3 : inb (nI (i + 1)) (SS_cap S) = true := inb_nI (by omega) (by omega)
        have q4 : (nI (i + 1)).toNatClampNeg = i + 1 := nI_clamp (by omega)
        have b := (fs_le h (i := i + 1) (by omega)).2
        by_cases q5 : x < fs (i + 1)
        · right
          have q6 : nI x < nI (fs (i + 1)) := nI_lt q5 (by omega)
          exact ⟨nI i, by simp only [fX3_runWith_l2, p9, e1, q2, q3, q4, p2 (i + 1) (by omega), q6, if_true, if_false], i, h3, h4, q5, rfl⟩
        · left
          have q6 : ¬ nI x < nI (fs (i + 1)) := by rw [nI_ltI (by omega) (by omega)]; exact q5
          exact ⟨nI (i + 1), by simp only [fX3_runWith_l2, p9, e1, q2, q3, q4, p2 (i + 1) (by omega), q6, if_true, if_false], rfl, by omega, by omega⟩
    · rintro s ⟨-, h3, -⟩; omega
  obtain ⟨r, k1, i, k2, k3, k4, rfl⟩ := key
  exact ⟨i, k2, k3, k4, by simp only [fX3_runWith, k1, Option.bind_some]⟩
theorem endOf_eq {sz t : Nat} {fs : Nat → Nat} {S : SS} {ow us : Nat → Int32} (h : RunsOk sz t fs S ow us) {i : Nat} (hi : i < sz) : fX3_endOf S (nI i) = some (nI (fs (i + 1))) := by
  have hs := sz_le h
  obtain ⟨⟨p1, p2, p3, p4⟩, p5, p6, p7, p8, p9, p10, p11⟩ := id h
  unfold fX3_endOf
  rw [nI_1, p9]
  by_cases q : sz ≤ i + 1
  · rw [if_pos (nI_le q (by omega)), p10, nI_1]
    have : i + 1 = sz := by omega
    rw [this, p5]
  · have q2 : ¬ nI sz ≤ nI (i + 1) := by rw [nI_leI (by omega) (by omega)]; omega
    rw [if_neg q2, if_pos (inb_nI (by omega) (by omega)), nI_clamp (by omega), p2 (i + 1) (by omega)]
theorem lengthOf_eq {sz t : Nat} {fs : Nat → Nat} {S : SS} {ow us : Nat → Int32} (h : RunsOk sz t fs S ow us) {i : Nat} (hi : i < sz) : fX3_lengthOf S (nI i) = some (nI (fs (i + 1) - fs i)) := by
  have hs := sz_le h
  have hl := h.1.2.2.1 i hi
  unfold fX3_lengthOf
  rw [endOf_eq h hi]
  simp only [Option.bind_some]
  rw [if_pos (inb_nI (by have := h.2.2.1; omega) (by have := h.2.2.2.2.1; omega)), nI_clamp (by have := h.2.2.2.2.2.2.2; omega), h.1.2.1 i hi, pk_sub (by omega)]
theorem sharedWith_eq {sz t : Nat} {fs : Nat → Nat} {S : SS} {ow us : Nat → Int32} (h : RunsOk sz t fs S ow us) {i fr n : Nat} (hi : i < sz) (hf : fr + n ≤ t + 1) : fX3_sharedWith S (nI i) (nI fr) (nI n) = some (nI (min (fs (i + 1)) (fr + n) - max (fs i) fr)) := by
  have hs := sz_le h
  have b1 := (fs_le h (i := i) (by omega)).2
  have b2 := (fs_le h (i := i + 1) (by omega)).2
  have ht := h.2.2.2.2.2.2.2
  unfold fX3_sharedWith
  rw [endOf_eq h hi]
  simp only [Option.bind_some]
  rw [if_pos (inb_nI (by have := h.2.2.1; omega) (by have := h.2.2.2.2.1; omega)), nI_clamp (by omega), h.1.2.1 i hi, nI_add]
  have m1 : (if nI (fr + n) < nI (fs (i + 1)) then nI (fr + n) else nI (fs (i + 1))) = nI (min (fs (i + 1)) (fr + n)) := by
    by_cases q : fr + n < fs (i + 1)
    · rw [if_pos (nI_lt q (by omega))]; congr 1; omega
    · rw [if_neg (by rw [nI_ltI (by omega) (by omega)]; exact q)]; congr 1; omega
  have m2 : (if nI (fs i) < nI fr then nI fr else nI (fs i)) = nI (max (fs i) fr) := by
    by_cases q : fs i < fr
    · rw [if_pos (nI_lt q (by omega))]; congr 1; omega
    · rw [if_neg (by rw [nI_ltI (by omega) (by omega)]; exact q)]; congr 1; omega
  rw [m1, m2]
  congr 1
  have d := pk_sub_toInt (a := min (fs (i + 1)) (fr + n)) (b := max (fs i) fr) (by omega) (by omega)
  by_cases q : max (fs i) fr < min (fs (i + 1)) (fr + n)
  · rw [if_pos (by rw [Int32.lt_iff_toInt_lt, d, toInt0]; omega), pk_sub (by omega)]
  · rw [if_neg (by rw [Int32.lt_iff_toInt_lt, d, toInt0]; omega)]
    rw [show min (fs (i + 1)) (fr + n) - max (fs i) fr = 0 by omega]; rfl
/-- how many of n from lo on -/
def cntR (p : Nat → Bool) (lo : Nat) : Nat → Nat
  | 0 => 0
  | n + 1 => cntR p lo n + (if p (lo + n) = true then 1 else 0)
theorem cntR_le (p : Nat → Bool) (lo : Nat) : ∀ n, cntR p lo n ≤ n
  | 0 => Nat.le_refl _
  | n + 1 => by have := cntR_le p lo n; unfold cntR; split <;> omega
theorem cntR_const (p : Nat → Bool) (lo : Nat) (v : Bool) (a : Nat) : ∀ b, a ≤ b → (∀ x, lo + a ≤ x → x < lo + b → p x = v) → cntR p lo b = cntR p lo a + (if v = true then b - a else 0) := by
  intro b
  induction b with
  | zero => intro h _; have : a = 0 := by omega
            subst this; simp
  | succ b ih =>
    intro h hp
    by_cases q : a = b + 1
    · subst q; simp
    · have h1 := ih (by omega) (fun x h2 h3 => hp x h2 (by omega))
      have h2 := hp (lo + b) (by omega) (by omega)
      show cntR p lo b + (if p (lo + b) = true then 1 else 0) = _
      rw [h1, h2]
      cases v
      · simp
      · simp; omega
theorem run_step {sz t : Nat} {fs : Nat → Nat} {S : SS} {ow us : Nat → Int32} (h : RunsOk sz t fs S ow us) (q : Int32 → Int32 → Bool) {i fr n : Nat} (hi : i < sz) : cntR (fun x => q (ow x) (us x)) fr (min (fs (i + 1) - fr) n) = cntR (fun x => q (ow x) (us x)) fr (min (fs i - fr) n) + (if q (SS_owner S i) (SS_row S i) = true then min (fs (i + 1)) (fr + n) - max (fs i) fr else 0) := by
  have hl := h.1.2.2.1 i hi
  rw [cntR_const _ fr (q (SS_owner S i) (SS_row S i)) (min (fs i - fr) n) (min (fs (i + 1) - fr) n) (by omega)]
  · congr 1
    split
    · omega
    · rfl
  · intro x h1 h2
    obtain ⟨a, b⟩ := h.1.2.2.2 i hi x (by omega) (by omega)
    rw [a, b]
theorem usedAmong_eq {sz t : Nat} {fs : Nat → Nat} {S : SS} {ow us : Nat → Int32} (h : RunsOk sz t fs S ow us) {fr n : Nat} (h1 : 1 ≤ fr) (hf : fr + n ≤ t + 1) : fX3_usedAmong S (nI fr) (nI n) = some (nI (cntR (fun x => decide (¬ us x = -9)) fr n)) := by
  have hs := sz_le h
  have ht := h.2.2.2.2.2.2.2
  have key : ∃ r, loopN (fun (s : Int32 × Int32) => fX3_usedAmong_l5 S (nI fr) (nI n) s.1 s.2) fuelN ((0 : Int32), (0 : Int32)) = some r ∧ r.1 = nI (cntR (fun x => decide (¬ us x = -9)) fr n) := by
    refine loop_f (fun i s => s = (nI (cntR (fun x => decide (¬ us x = -9)) fr (min (fs i - fr) n)), nI i)) _ sz (by omega) ?_ ?_ ?_
    · have := h.1.1
      rw [show min (fs 0 - fr) n = 0 by omega]; rfl
    · rintro i s hi rfl
      left
      have c1 : ¬ nI sz ≤ nI i := by rw [nI_leI (by omega) (by omega)]; omega
      have c2 : inb (nI i) (SS_cap S) = true := inb_nI (by have := h.2.2.1; omega) (by have := h.2.2.2.2.1; omega)
      have c3 : (nI i).toNatClampNeg = i := nI_clamp (by omega)
      have st := run_step h (fun _ b => decide (¬ b = -9)) (fr := fr) (n := n) hi
      refine ⟨_, ?_, rfl⟩
      rw [st]
      simp only [fX3_usedAmong_l5, fX3_usedAmong_b37, h.2.2.2.2.2.1, c1, c2, c3, if_false, if_true, sharedWith_eq h hi hf, Option.bind_some, nI_1, nI_add]
      by_cases g : SS_row S i = -9
      · simp [g]
      · simp [g]
    · rintro s rfl
      refine ⟨(nI (cntR (fun x => decide (¬ us x = -9)) fr n), nI sz), ?_, rfl⟩
      have := h.2.1
      rw [show min (fs sz - fr) n = n by omega]
      have c1 : nI sz ≤ nI sz := Int32.le_refl _
      simp only [fX3_usedAmong_l5, h.2.2.2.2.2.1, c1, if_true]
  obtain ⟨r, k1, k2⟩ := key
  simp only [fX3_usedAmong, k1, Option.bind_some, k2]
theorem ownedAmong_eq {sz t : Nat} {fs : Nat → Nat} {S : SS} {ow us : Nat → Int32} (h : RunsOk sz t fs S ow us) {fr n : Nat} (h1 : 1 ≤ fr) (hf : fr + n ≤ t + 1) (o : Int32) : fX3_ownedAmong S (nI fr) (nI n) o = some (nI (cntR (fun x => decide (ow x = o)) fr n)) := by
  have hs := sz_le h
  have ht := h.2.2.2.2.2.2.2
  have key : ∃ r, loopN (fun (s : Int32 × Int32) => fX3_ownedAmong_l6 S (nI fr) (nI n) o s.1 s.2) fuelN ((0 : Int32), (0 : Int32)) = some r ∧ r.1 = nI (cntR (fun x => decide (ow x = o)) fr n) := by
    refine loop_f (fun i s => s = (nI (cntR (fun x => decide (ow x = o)) fr (min (fs i - fr) n)), nI i)) _ sz (by omega) ?_ ?_ ?_
    · have := h.1.1
      rw [show min (fs 0 - fr) n = 0 by omega]; rfl
    · rintro i s hi rfl
      left
      have c1 : ¬ nI sz ≤ nI i := by rw [nI_leI (by omega) (by omega)]; omega
      have c2 : inb (nI i) (SS_cap S) = true := inb_nI (by have := h.2.2.1; omega) (by have := h.2.2.2.2.1; omega)
      have c3 : (nI i).toNatClampNeg = i := nI_clamp (by omega)
      have st := run_step h (fun a _ => decide (a = o)) (fr := fr) (n := n) hi
      refine ⟨_, ?_, rfl⟩
      rw [st]
      simp only [fX3_ownedAmong_l6, fX3_ownedAmong_b39, h.2.2.2.2.2.1, c1, c2, c3, if_false, if_true, sharedWith_eq h hi hf, Option.bind_some, nI_1, nI_add]
      by_cases g : SS_owner S i = o
      · simp [g]
      · simp [g]
    · rintro s rfl
      refine ⟨(nI (cntR (fun x => decide (ow x = o)) fr n), nI sz), ?_, rfl⟩
      have := h.2.1
      rw [show min (fs sz - fr) n = n by omega]
      have c1 : nI sz ≤ nI sz := Int32.le_refl _
      simp only [fX3_ownedAmong_l6, h.2.2.2.2.2.1, c1, if_true]
  obtain ⟨r, k1, k2⟩ := key
  simp only [fX3_ownedAmong, k1, Option.bind_some, k2]
theorem unusedOf_eq {sz t : Nat} {fs : Nat → Nat} {S : SS} {ow us : Nat → Int32} (h : RunsOk sz t fs S ow us) (o : Int32) : fX3_unusedOf S o = some (nI (cntR (fun x => decide (ow x = o) && decide (us x = -9)) 1 t)) := by
  have hs := sz_le h
  have ht := h.2.2.2.2.2.2.2
  have key : ∃ r, loopN (fun (s : Int32 × Int32) => fX3_unusedOf_l4 S o s.1 s.2) fuelN ((0 : Int32), (0 : Int32)) = some r ∧ r.1 = nI (cntR (fun x => decide (ow x = o) && decide (us x = -9)) 1 t) := by
    refine loop_f (fun i s => s = (nI (cntR (fun x => decide (ow x = o) && decide (us x = -9)) 1 (min (fs i - 1) t)), nI i)) _ sz (by omega) ?_ ?_ ?_
    · have := h.1.1
      rw [show min (fs 0 - 1) t = 0 by omega]; rfl
    · rintro i s hi rfl
      left
      have c1 : ¬ nI sz ≤ nI i := by rw [nI_leI (by omega) (by omega)]; omega
      have c2 : inb (nI i) (SS_cap S) = true := inb_nI (by have := h.2.2.1; omega) (by have := h.2.2.2.2.1; omega)
      have c3 : (nI i).toNatClampNeg = i := nI_clamp (by omega)
      have st := run_step h (fun a b => decide (a = o) && decide (b = -9)) (fr := 1) (n := t) hi
      have b1 := fs_le h (i := i) (by omega)
      have b2 := fs_le h (i := i + 1) (by omega)
      have st2 : min (fs (i + 1)) (1 + t) - max (fs i) 1 = fs (i + 1) - fs i := by omega
      rw [st2] at st
      refine ⟨_, ?_, rfl⟩
      rw [st]
      simp only [fX3_unusedOf_l4, fX3_unusedOf_b41, h.2.2.2.2.2.1, c1, c2, c3, if_false, if_true, lengthOf_eq h hi, Option.bind_some, nI_1, nI_add]
      by_cases g : SS_owner S i = o
      · by_cases g2 : SS_row S i = -9
        · simp [g, g2]
        · simp [g, g2]
      · simp [g]
    · rintro s rfl
      refine ⟨(nI (cntR (fun x => decide (ow x = o) && decide (us x = -9)) 1 t), nI sz), ?_, rfl⟩
      have := h.2.1
      rw [show min (fs sz - 1) t = t by omega]
      have c1 : nI sz ≤ nI sz := Int32.le_refl _
      simp only [fX3_unusedOf_l4, h.2.2.2.2.2.1, c1, if_true]
  obtain ⟨r, k1, k2⟩ := key
  simp only [fX3_unusedOf, k1, Option.bind_some, k2]
