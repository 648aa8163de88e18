/-! issue, move, use -/
theorem hasUsed_eq {m : MS} {a b : Nat} (h1 : 1 ≤ a) (h2 : a + b ≤ 20001) : fX6_hasUsed m (nI a) (nI b) = some (if cntR (fun x => decide (¬ MS_used m x = -9)) a b = 0 then 0 else 1) := by
  obtain ⟨p, hp⟩ : ∃ p : Nat → Bool, p = fun x => decide (¬ MS_used m x = -9) := ⟨_, rfl⟩
  rw [← hp]
  have key : ∃ r, loopN (fun (s : Int32 × Int32) => fX6_hasUsed_l5 m (nI a) (nI b) s.1 s.2) fuelN ((0 : Int32), nI a) = some r ∧ r.1 = (if cntR p a b = 0 then 0 else 1) := by
    refine loop_f (fun i s => s = (if cntR p a i = 0 then 0 else 1, nI (a + i))) _ b (by omega) rfl ?_ ?_
    · rintro i s hi rfl
      left
      have c1 : ¬ nI (a + b) ≤ nI (a + i) := by rw [nI_leI (by omega) (by omega)]; omega
      have c2 : inb (nI (a + i)) 20001 = true := inb_nI (by omega) (by omega)
      have c3 : (nI (a + i)).toNatClampNeg = a + i := nI_clamp (by omega)
      have e1 : nI (a + i) + 1 = nI (a + (i + 1)) := nI_1 (a + i)
      have hpi : p (a + i) = decide (¬ MS_used m (a + i) = -9) := by rw [hp]
      refine ⟨_, ?_, rfl⟩
      simp only [fX6_hasUsed_l5, fX6_hasUsed_b29, fX6_hasUsed_b34, nI_add, c1, c2, c3, e1, if_true, if_false, cntR, hpi]
      by_cases g : cntR p a i = 0
      · by_cases g2 : MS_used m (a + i) = -9
        · simp [g, g2]
        · simp [g, g2]
      · simp [g]
    · rintro s rfl
      refine ⟨(if cntR p a b = 0 then 0 else 1, nI (a + b)), ?_, rfl⟩
      have c1 : nI (a + b) ≤ nI (a + b) := Int32.le_refl _
      simp only [fX6_hasUsed_l5, nI_add, c1, if_true]
  obtain ⟨r, k1, k2⟩ := key
  simp only [fX6_hasUsed, k1, Option.bind_some, k2]
  by_cases g : cntR p a b = 0
  · simp [g, isB]
  · simp [g, isB]
/-- whether two functions agree on the counted ones -/
theorem cntR_congr {p q : Nat → Bool} {lo : Nat} : ∀ n, (∀ x, lo ≤ x → x < lo + n → p x = q x) → cntR p lo n = cntR q lo n
  | 0, _ => rfl
  | n + 1, h => by
    unfold cntR
    rw [cntR_congr n (fun x h1 h2 => h x h1 (by omega)), h (lo + n) (by omega) (by omega)]
theorem move_loop {m : MS} {a b : Nat} (o : Int32) (h1 : 1 ≤ a) (h2 : a + b ≤ 20001) : ∃ y, loopN (fun (s : MS × Int32 × Int32) => fX6_move_l52 (nI a) (nI b) o s.1 s.2.1 s.2.2) fuelN (m, (0 : Int32), nI a) = some y ∧ y.2.1 = nI (b - cntR (fun x => decide (MS_owner m x = o)) a b) ∧ y.1 = MS_owner_s m (MS_owner y.1) ∧ (∀ x, MS_owner y.1 x = if a ≤ x ∧ x < a + b then o else MS_owner m x) := by
  refine loop_f (fun i s => s.2.1 = nI (i - cntR (fun x => decide (MS_owner m x = o)) a i) ∧ s.1 = MS_owner_s m (MS_owner s.1) ∧ (∀ x, MS_owner s.1 x = if a ≤ x ∧ x < a + i then o else MS_owner m x) ∧ s.2.2 = nI (a + i)) _ b (by omega) ⟨rfl, rfl, fun x => by rw [if_neg (by omega)], rfl⟩ ?_ ?_
  · rintro i ⟨T, y1, y2⟩ hi ⟨a1, a2, a3, a4⟩
    simp only at a1 a2 a3 a4
    subst a1; subst a4
    left
    have c1 : ¬ nI (a + b) ≤ nI (a + i) := by rw [nI_leI (by omega) (by omega)]; omega
    have c2 : inb (nI (a + i)) 20001 = true := inb_nI (by omega) (by omega)
    have c3 : (nI (a + i)).toNatClampNeg = a + i := nI_clamp (by omega)
    have e1 : nI (a + i) + 1 = nI (a + (i + 1)) := nI_1 (a + i)
    have e0 : ∀ x : Int32, x + 0 = x := fun x => Int32.add_zero x
    have v := a3 (a + i)
    rw [if_neg (by omega)] at v
    have cl := cntR_le (fun x => decide (MS_owner m x = o)) a i
    refine ⟨(MS_owner_s T (upd (MS_owner T) (a + i) o), nI (i + 1 - cntR (fun x => decide (MS_owner m x = o)) a (i + 1)), nI (a + (i + 1))), ?_, rfl, ?_, ?_, rfl⟩
    · simp only [fX6_move_l52, fX6_move_b78, bnd, nI_add, c1, c2, c3, e1, if_true, if_false, v, cntR]
      by_cases g : MS_owner m (a + i) = o
      · simp [g, e0]
      · simp [g, nI_1]
        congr 2; omega
    · show MS_owner_s T (upd (MS_owner T) (a + i) o) = MS_owner_s m (upd (MS_owner T) (a + i) o)
      rw [a2]; rfl
    · intro x
      show upd (MS_owner T) (a + i) o x = _
      by_cases q : x = a + i
      · subst q; rw [upd_s, if_pos (by omega)]
      · rw [upd_n _ _ q, a3]
        by_cases q2 : a ≤ x ∧ x < a + i
        · rw [if_pos q2, if_pos (by omega)]
        · rw [if_neg q2, if_neg (by omega)]
  · rintro ⟨T, y1, y2⟩ ⟨a1, a2, a3, a4⟩
    simp only at a1 a2 a3 a4
    subst a1; subst a4
    have c1 : nI (a + b) ≤ nI (a + b) := Int32.le_refl _
    exact ⟨(T, nI (b - cntR (fun x => decide (MS_owner m x = o)) a b), nI (a + b)), by simp only [fX6_move_l52, nI_add, c1, if_true], rfl, a2, a3⟩
theorem SerRel_of {k sz t : Nat} {fs : Nat → Nat} {S : SS} {m : MS} (h1 : sz ≤ 2 * k) (h2 : RunsOk sz t fs S (MS_owner m) (MS_used m)) (h3 : MS_serials m = nI t) (h4 : AdjP (SS_owner S) (SS_row S) sz) : SerRel k S m := SerRel_iff.mpr ⟨sz, t, fs, h1, h2, h3, h4⟩
theorem RunP_congr {first owner row : Nat → Int32} {sz : Nat} {fs : Nat → Nat} {ow us ow' us' : Nat → Int32} (h : RunP first owner row sz fs ow us) (hh : ∀ x, 1 ≤ x → x < fs sz → ow' x = ow x ∧ us' x = us x) : RunP first owner row sz fs ow' us' := by
  obtain ⟨p1, p2, p3, p4⟩ := h
  refine ⟨p1, p2, p3, fun i hi x hx1 hx2 => ?_⟩
  have l1 := fs_mono p3 i (by omega) 0 (Nat.zero_le _)
  have l2 := fs_mono p3 sz (Nat.le_refl _) (i + 1) (by omega)
  obtain ⟨e1, e2⟩ := hh x (by omega) (by omega)
  rw [e1, e2]
  exact p4 i hi x hx1 hx2
theorem le_nI1 {x : Int32} : (1 : Int32) ≤ x ↔ ¬ x < 1 := by rw [Int32.not_lt]
theorem st_move {k : Nat} {lst : LG} {mst : MS} (hR : Rel k lst mst) (hk : k < 512) (z1 z2 z3 : Int32) : ∃ (r : Int32) (lst2 : LG) (mst2 : MS), fX5_move lst z1 z2 z3 = some (r, lst2) ∧ fX6_move mst z1 z2 z3 = some (r, mst2) ∧ Rel (k + 1) lst2 mst2 := by
  have hR0 := hR
  obtain ⟨u, hu1, hu2, hl, hm, hRow, hF, h7, h8⟩ := hR
  obtain ⟨sz, t, fs, hsz, hok, hser, hadj⟩ := SerRel_iff.mp h8
  have ht := hok.2.2.2.2.2.2.2
  have hi := hok.2.2.2.2.2.2.1
  have hm' : MS_units (MS_thrown_s mst 0) = nI u := hm
  have hser' : MS_serials (MS_thrown_s mst 0) = nI t := hser
  have good : ∀ v : Int32, fX5_move lst z1 z2 z3 = some (v, lst) → fX6_move mst z1 z2 z3 = some (v, MS_thrown_s mst 0) → ∃ (r : Int32) (lst2 : LG) (mst2 : MS), fX5_move lst z1 z2 z3 = some (r, lst2) ∧ fX6_move mst z1 z2 z3 = some (r, mst2) ∧ Rel (k + 1) lst2 mst2 := fun v h1 h2 => ⟨v, lst, _, h1, h2, Rel_up (Rel_thr hR0)⟩
  by_cases c1 : inb z3 u = true
  case neg => exact good (-1) (by simp [fX5_move, isUnit_eq hl hu2, c1]) (by simp [fX6_move, bnd, noUnit_eq hm' hu1 hu2, c1])
  by_cases c2 : z2 < 1
  case pos =>
    have c2' : ¬ (1 : Int32) ≤ z2 := by rw [le_nI1]; simp [c2]
    exact good (-2) (by simp [fX5_move, isUnit_eq hl hu2, c1, c2']) (by simp [fX6_move, bnd, noUnit_eq hm' hu1 hu2, c1, c2'])
  have c2' : (1 : Int32) ≤ z2 := le_nI1.mpr c2
  by_cases c3 : z1 < 1
  case pos => exact good (-1) (by simp [fX5_move, isUnit_eq hl hu2, c1, c2', areIssued_lt c3]) (by simp [fX6_move, bnd, noUnit_eq hm' hu1 hu2, c1, c2', noSerials_lt c3])
  obtain ⟨b, hb1, hb2, rfl⟩ := ge1 c2
  obtain ⟨a, ha1, ha2, rfl⟩ := ge1 c3
  have ei := areIssued_eq hi ht ha1 ha2 hb1 hb2
  have en := noSerials_eq hser' ht ha1 ha2 hb1 hb2
  by_cases c4 : a + b ≤ t + 1
  case neg =>
    rw [if_neg c4] at ei en
    exact good (-1) (by simp [fX5_move, isUnit_eq hl hu2, c1, c2', ei]) (by simp [fX6_move, bnd, noUnit_eq hm' hu1 hu2, c1, c2', en])
  rw [if_pos c4] at ei en
  have eu := usedAmong_eq hok ha1 c4
  have eh := hasUsed_eq (m := MS_thrown_s mst 0) ha1 (show a + b ≤ 20001 by omega)
  have ecu : cntR (fun x => decide (¬ MS_used (MS_thrown_s mst 0) x = -9)) a b = cntR (fun x => decide (¬ MS_used mst x = -9)) a b := rfl
  rw [ecu] at eh
  have cl := cntR_le (fun x => decide (¬ MS_used mst x = -9)) a b
  have t10 : ¬ (1 : Int32) = 0 := by decide
  obtain ⟨cu, hcu⟩ : ∃ cu, cu = cntR (fun x => decide (¬ MS_used mst x = -9)) a b := ⟨_, rfl⟩
  rw [← hcu] at eu eh cl
  by_cases c5 : cu = 0
  case neg =>
    rw [if_neg c5] at eh
    have q : ¬ nI cu ≤ 0 := nI_nle (by omega) (by omega)
    exact good (-3) (by simp [fX5_move, isUnit_eq hl hu2, c1, c2', ei, eu, q]) (by simp [fX6_move, bnd, noUnit_eq hm' hu1 hu2, c1, c2', en, eh])
  rw [if_pos c5] at eh
  rw [c5] at eu
  have q : nI 0 ≤ 0 := by decide
  have eo := ownedAmong_eq hok ha1 c4 z3
  have clo := cntR_le (fun x => decide (MS_owner mst x = z3)) a b
  obtain ⟨S', sz', gs, m1, m2, m3, m4⟩ := mark_eq hok (by omega) ha1 hb1 c4 z3 (-9)
  obtain ⟨y, l1, l2, l3, l4⟩ := move_loop (m := MS_thrown_s mst 0) z3 ha1 (show a + b ≤ 20001 by omega)
  have eco : cntR (fun x => decide (MS_owner (MS_thrown_s mst 0) x = z3)) a b = cntR (fun x => decide (MS_owner mst x = z3)) a b := rfl
  rw [eco] at l2
  refine ⟨nI (b - cntR (fun x => decide (MS_owner mst x = z3)) a b), LG_mk (LG_H lst) (LG_R lst) (LG_F lst) S' (LG_units lst), y.1, ?_, ?_, ?_⟩
  · simp [fX5_move, isUnit_eq hl hu2, c1, c2', ei, eu, q, eo, m1, pk_sub clo]
  · simp [fX6_move, bnd, noUnit_eq hm' hu1 hu2, c1, c2', en, eh, l1, l2]
  · have noneUsed : ∀ x, a ≤ x → x < a + b → MS_used mst x = -9 := by
      intro x hx1 hx2
      have gen : ∀ n, n ≤ b → cntR (fun x => decide (¬ MS_used mst x = -9)) a n = 0 → ∀ x, a ≤ x → x < a + n → MS_used mst x = -9 := by
        intro n
        induction n with
        | zero => intro _ _ x h1 h2; omega
        | succ n ih =>
          intro hn hc x h1 h2
          unfold cntR at hc
          by_cases g : x = a + n
          · subst g
            by_cases g2 : MS_used mst (a + n) = -9
            · exact g2
            · simp [g2] at hc
          · exact ih (by omega) (by omega) x h1 (by omega)
      exact gen b (Nat.le_refl _) (by rw [← hcu, c5]) x hx1 hx2
    have hf : SerRel (k + 1) S' y.1 := by
      refine SerRel_of (fs := gs) (by omega) ?_ (by rw [l3]; exact hser) m4
      refine ⟨RunP_congr m2.1 (fun x hx1 hx2 => ⟨?_, ?_⟩), m2.2⟩
      · rw [l4]; rfl
      · have : MS_used y.1 x = MS_used mst x := by rw [l3]; rfl
        rw [this]
        by_cases g : a ≤ x ∧ x < a + b
        · rw [if_pos g]; exact noneUsed x g.1 g.2
        · rw [if_neg g]
    refine ⟨u, hu1, hu2, hl, by rw [l3]; exact hm, ?_, ?_, ?_, hf⟩
    · rw [l3]; exact tr_Row_owner (tr_Row_thrown hRow)
    · rw [l3]; exact tr_Fac_owner (tr_Fac_thrown hF)
    · rw [l3]; exact tr_Hold_owner (tr_Hold_thrown h7)
