/-! use, issue -/
theorem cntR_all {p : Nat → Bool} {a : Nat} : ∀ n, cntR p a n = n → ∀ x, a ≤ x → x < a + n → p x = true
  | 0, _, x, h1, h2 => by omega
  | n + 1, hc, x, h1, h2 => by
    have cl := cntR_le p a n
    have hc' : cntR p a n + (if p (a + n) = true then 1 else 0) = n + 1 := hc
    by_cases g : p (a + n) = true
    · rw [if_pos g] at hc'
      by_cases q : x = a + n
      · subst q; exact g
      · exact cntR_all n (by omega) x h1 (by omega)
    · rw [if_neg g] at hc'; omega
theorem use_loop {m : MS} {a b i : Nat} (hi : i < 200) (h1 : 1 ≤ a) (h2 : a + b ≤ 20001) (k0 : Int32) (hk0 : k0 = 0 ∨ k0 = 1) : ∃ y, loopN (fun (s : Int32 × Int32) => fX6_use_l63 m (nI a) (nI b) (nI i) s.1 s.2) fuelN (k0, nI a) = some y ∧ (y.1 = 0 ↔ k0 = 0 ∧ cntR (fun x => decide (MS_owner m x = MS_unitOf m i)) a b = b) := by
  obtain ⟨p, hp⟩ : ∃ p : Nat → Bool, p = fun x => decide (MS_owner m x = MS_unitOf m i) := ⟨_, rfl⟩
  rw [← hp]
  have t10 : ¬ (1 : Int32) = 0 := by decide
  refine loop_f (fun j s => (s.1 = 0 ∨ s.1 = 1) ∧ (s.1 = 0 ↔ k0 = 0 ∧ cntR p a j = j) ∧ s.2 = nI (a + j)) _ b (by omega) ⟨hk0, ⟨fun h => ⟨h, rfl⟩, fun h => h.1⟩, rfl⟩ ?_ ?_
  · rintro j ⟨x, y⟩ hj ⟨q1, q2, q3⟩
    simp only at q1 q2 q3
    subst q3
    left
    have c1 : ¬ nI (a + b) ≤ nI (a + j) := by rw [nI_leI (by omega) (by omega)]; omega
    have c2 : inb (nI (a + j)) 20001 = true := inb_nI (by omega) (by omega)
    have c3 : (nI (a + j)).toNatClampNeg = a + j := nI_clamp (by omega)
    have c4 : inb (nI i) 200 = true := inb_nI hi (by omega)
    have c5 : (nI i).toNatClampNeg = i := nI_clamp (by omega)
    have e1 : nI (a + j) + 1 = nI (a + (j + 1)) := nI_1 (a + j)
    have hpi : p (a + j) = decide (MS_owner m (a + j) = MS_unitOf m i) := by rw [hp]
    have cl := cntR_le p a j
    have cs : cntR p a (j + 1) = cntR p a j + (if p (a + j) = true then 1 else 0) := rfl
    by_cases g : x = 0
    · by_cases g2 : MS_owner m (a + j) = MS_unitOf m i
      · refine ⟨(0, nI (a + (j + 1))), by simp only [fX6_use_l63, fX6_use_b97, nI_add, c1, c2, c3, c4, c5, e1, g, g2, if_true, if_false], Or.inl rfl, ⟨fun _ => ⟨(q2.mp g).1, ?_⟩, fun _ => rfl⟩, rfl⟩
        have := (q2.mp g).2
        rw [cs, hpi]; simp [g2]; omega
      · refine ⟨(1, nI (a + (j + 1))), by simp only [fX6_use_l63, fX6_use_b97, fX6_use_b92, nI_add, c1, c2, c3, c4, c5, e1, g, g2, if_true, if_false], Or.inr rfl, ⟨fun h => absurd h t10, fun h => ?_⟩, rfl⟩
        have := h.2
        rw [cs, hpi] at this
        simp [g2] at this
        omega
    · refine ⟨(1, nI (a + (j + 1))), by simp only [fX6_use_l63, fX6_use_b97, fX6_use_b92, nI_add, c1, e1, g, if_true, if_false], Or.inr rfl, ⟨fun h => absurd h t10, fun h => ?_⟩, rfl⟩
      refine absurd (q2.mpr ⟨h.1, ?_⟩) g
      have := h.2
      rw [cs] at this
      split at this <;> omega
  · rintro ⟨x, y⟩ ⟨q1, q2, q3⟩
    simp only at q1 q2 q3
    subst q3
    have c1 : nI (a + b) ≤ nI (a + b) := Int32.le_refl _
    exact ⟨(x, nI (a + b)), by simp only [fX6_use_l63, nI_add, c1, if_true], q2⟩
theorem use_mark {m : MS} {a b : Nat} (r : Int32) (h1 : 1 ≤ a) (h2 : a + b ≤ 20001) : ∃ y, loopN (fun (s : MS × Int32) => fX6_use_l136 (nI a) (nI b) r s.1 s.2) fuelN (m, nI a) = some y ∧ y.1 = MS_used_s m (MS_used y.1) ∧ (∀ x, MS_used y.1 x = if a ≤ x ∧ x < a + b then r else MS_used m x) := by
  refine loop_f (fun i s => s.1 = MS_used_s m (MS_used s.1) ∧ (∀ x, MS_used s.1 x = if a ≤ x ∧ x < a + i then r else MS_used m x) ∧ s.2 = nI (a + i)) _ b (by omega) ⟨rfl, fun x => by rw [if_neg (by omega)], rfl⟩ ?_ ?_
  · rintro i ⟨T, y2⟩ hi ⟨a2, a3, a4⟩
    simp only at a2 a3 a4
    subst a4
    left
    have c1 : ¬ nI (a + b) ≤ nI (a + i) := by rw [nI_leI (by omega) (by omega)]; omega
    have c2 : inb (nI (a + i)) 20001 = true := inb_nI (by omega) (by omega)
    have c3 : (nI (a + i)).toNatClampNeg = a + i := nI_clamp (by omega)
    have e1 : nI (a + i) + 1 = nI (a + (i + 1)) := nI_1 (a + i)
    refine ⟨(MS_used_s T (upd (MS_used T) (a + i) r), nI (a + (i + 1))), by simp only [fX6_use_l136, bnd, nI_add, c1, c2, c3, e1, if_true, if_false], ?_, ?_, rfl⟩
    · show MS_used_s T (upd (MS_used T) (a + i) r) = MS_used_s m (upd (MS_used T) (a + i) r)
      rw [a2]; rfl
    · intro x
      show upd (MS_used T) (a + i) r x = _
      by_cases q : x = a + i
      · subst q; rw [upd_s, if_pos (by omega)]
      · rw [upd_n _ _ q, a3]
        by_cases q2 : a ≤ x ∧ x < a + i
        · rw [if_pos q2, if_pos (by omega)]
        · rw [if_neg q2, if_neg (by omega)]
  · rintro ⟨T, y2⟩ ⟨a2, a3, a4⟩
    simp only at a2 a3 a4
    subst a4
    have c1 : nI (a + b) ≤ nI (a + b) := Int32.le_refl _
    exact ⟨(T, nI (a + b)), by simp only [fX6_use_l136, nI_add, c1, if_true], a2, a3⟩
theorem RowRel_cover {u : Nat} {R : RS} {m : MS} {n i am cv b : Nat} (h : RowRel u R m) (hs : RS_size R = nI n) (hi : i < n) (hn : n ≤ 200) (hA : RS_amount R i = nI am) (hC : RS_covered R i = nI cv) (am1 : 1 ≤ am) (am2 : am ≤ 100000) (c6 : cv + b ≤ am) : RowRel u (RS_covered_s R (upd (RS_covered R) i (nI cv + nI b))) (MS_covered_s m (upd (MS_covered m) i (nI cv + nI b))) := by
  obtain ⟨q1, q2, q3, q4, q5, q6, q7, n', q8, q9, q10, q11⟩ := h
  have en : n' = n := by rw [q9, nI_eq (by omega) (by omega)] at hs; exact hs
  subst en
  refine ⟨q1, q2, q3, q4, q5, ?_, q7, n', q8, q9, ?_, ?_⟩
  · show upd (RS_covered R) i _ = upd (MS_covered m) i _
    rw [q6]
  · intro j hj
    obtain ⟨s1, s2, s3, a', c', s4, s5, s6, s7, s8⟩ := q10 j hj
    refine ⟨s1, s2, s3, ?_⟩
    by_cases g : j = i
    · subst g
      refine ⟨am, cv + b, am1, am2, c6, hA, ?_⟩
      show upd (RS_covered R) j (nI cv + nI b) j = _
      rw [upd_s, nI_add]
    · refine ⟨a', c', s4, s5, s6, s7, ?_⟩
      show upd (RS_covered R) i (nI cv + nI b) j = _
      rw [upd_n _ _ g]; exact s8
  · intro j hj
    show upd (RS_covered R) i (nI cv + nI b) j = _
    rw [upd_n _ _ (by omega)]; exact q11 j hj
theorem st_use {k : Nat} {lst : LG} {mst : MS} (hR : Rel k lst mst) (hk : k < 512) (z1 z2 z3 : Int32) : ∃ (r : Int32) (lst2 : LG) (mst2 : MS), fX5_use lst z1 z2 z3 = some (r, lst2) ∧ fX6_use mst z1 z2 z3 = some (r, mst2) ∧ Rel (k + 1) lst2 mst2 := by
  have hR0 := hR
  obtain ⟨u, hu1, hu2, hl, hm, hRow, hF, h7, h8⟩ := hR
  obtain ⟨sz, t, fs, hsz, hok, hser, hadj⟩ := SerRel_iff.mp h8
  obtain ⟨r1, r2, r3, r4, r5, r6, r7, nr, hnr, hrs, hrok, hcov⟩ := id hRow
  have ht := hok.2.2.2.2.2.2.2
  have hi := hok.2.2.2.2.2.2.1
  have hser' : MS_serials (MS_thrown_s mst 0) = nI t := hser
  have hr' : MS_rows (MS_thrown_s mst 0) = nI nr := by rw [← hrs, r7]; rfl
  have good : ∀ v : Int32, fX5_use lst z1 z2 z3 = some (v, lst) → fX6_use mst z1 z2 z3 = some (v, MS_thrown_s mst 0) → ∃ (r : Int32) (lst2 : LG) (mst2 : MS), fX5_use lst z1 z2 z3 = some (r, lst2) ∧ fX6_use mst z1 z2 z3 = some (r, mst2) ∧ Rel (k + 1) lst2 mst2 := fun v h1 h2 => ⟨v, lst, _, h1, h2, Rel_up (Rel_thr hR0)⟩
  by_cases c1 : inb z3 nr = true
  case neg => exact good (-1) (by simp [fX5_use, isRow_eq hrs hnr, c1]) (by simp [fX6_use, bnd, noRow_eq hr' hnr, c1])
  by_cases c2 : z2 < 1
  case pos =>
    have c2' : ¬ (1 : Int32) ≤ z2 := by rw [le_nI1]; simp [c2]
    exact good (-2) (by simp [fX5_use, isRow_eq hrs hnr, c1, c2']) (by simp [fX6_use, bnd, noRow_eq hr' hnr, c1, c2'])
  have c2' : (1 : Int32) ≤ z2 := le_nI1.mpr c2
  by_cases c3 : z1 < 1
  case pos => exact good (-1) (by simp [fX5_use, isRow_eq hrs hnr, c1, c2', areIssued_lt c3]) (by simp [fX6_use, bnd, noRow_eq hr' hnr, c1, c2', noSerials_lt c3])
  obtain ⟨b, hb1, hb2, rfl⟩ := ge1 c2
  obtain ⟨a, ha1, ha2, rfl⟩ := ge1 c3
  have ei := areIssued_eq hi ht ha1 ha2 hb1 hb2
  have en := noSerials_eq hser' ht ha1 ha2 hb1 hb2
  by_cases c4 : a + b ≤ t + 1
  case neg =>
    rw [if_neg c4] at ei en
    exact good (-1) (by simp [fX5_use, isRow_eq hrs hnr, c1, c2', ei]) (by simp [fX6_use, bnd, noRow_eq hr' hnr, c1, c2', en])
  rw [if_pos c4] at ei en
  obtain ⟨i, hin, rfl⟩ := inb_of c1 (by omega)
  have i200 : inb (nI i) 200 = true := inb_nI (by omega) (by omega)
  have icl : (nI i).toNatClampNeg = i := nI_clamp (by omega)
  have eu := usedAmong_eq hok ha1 c4
  have eh := hasUsed_eq (m := MS_thrown_s mst 0) ha1 (show a + b ≤ 20001 by omega)
  have ecu : cntR (fun x => decide (¬ MS_used (MS_thrown_s mst 0) x = -9)) a b = cntR (fun x => decide (¬ MS_used mst x = -9)) a b := rfl
  rw [ecu] at eh
  have cl := cntR_le (fun x => decide (¬ MS_used mst x = -9)) a b
  obtain ⟨cu, hcu⟩ : ∃ cu, cu = cntR (fun x => decide (¬ MS_used mst x = -9)) a b := ⟨_, rfl⟩
  rw [← hcu] at eu eh cl
  have eo := ownedAmong_eq hok ha1 c4 (RS_unit (LG_R lst) i)
  have clo := cntR_le (fun x => decide (MS_owner mst x = RS_unit (LG_R lst) i)) a b
  obtain ⟨co, hco⟩ : ∃ co, co = cntR (fun x => decide (MS_owner mst x = RS_unit (LG_R lst) i)) a b := ⟨_, rfl⟩
  rw [← hco] at eo clo
  have t10 : ¬ (1 : Int32) = 0 := by decide
  have hkd : MS_kind (MS_thrown_s mst 0) i = RS_kind (LG_R lst) i := by rw [r2]; rfl
  -- the reference: how it comes to its loop
  have kd01 : ∃ k0 : Int32, (k0 = 0 ∨ k0 = 1) ∧ (k0 = 0 ↔ RS_kind (LG_R lst) i = 1 ∧ cu = 0) ∧ fX6_use mst (nI a) (nI b) (nI i) = fX6_use_b58 (MS_thrown_s mst 0) (nI a) (nI b) (nI i) k0 := by
    by_cases g1 : RS_kind (LG_R lst) i = 1
    · by_cases g2 : cu = 0
      · rw [if_pos g2] at eh
        exact ⟨0, Or.inl rfl, ⟨fun _ => ⟨g1, g2⟩, fun _ => rfl⟩, by simp [fX6_use, bnd, noRow_eq hr' hnr, c1, c2', en, i200, icl, hkd, g1, eh]⟩
      · rw [if_neg g2] at eh
        exact ⟨1, Or.inr rfl, ⟨fun h => absurd h t10, fun h => absurd h.2 g2⟩, by simp [fX6_use, fX6_use_b53, bnd, noRow_eq hr' hnr, c1, c2', en, i200, icl, hkd, g1, eh]⟩
    · exact ⟨1, Or.inr rfl, ⟨fun h => absurd h t10, fun h => absurd h.1 g1⟩, by simp [fX6_use, fX6_use_b53, bnd, noRow_eq hr' hnr, c1, c2', en, i200, icl, hkd, g1]⟩
  obtain ⟨k0, hk01, hk0, hgo⟩ := kd01
  obtain ⟨y, l1, l2⟩ := use_loop (m := MS_thrown_s mst 0) (i := i) (by omega) ha1 (show a + b ≤ 20001 by omega) k0 hk01
  have eqo : cntR (fun x => decide (MS_owner (MS_thrown_s mst 0) x = MS_unitOf (MS_thrown_s mst 0) i)) a b = co := by rw [hco, r1]; rfl
  rw [eqo] at l2
  by_cases c5 : RS_kind (LG_R lst) i = 1 ∧ cu = 0 ∧ co = b
  case neg =>
    have y0 : ¬ y.1 = 0 := fun q => c5 ⟨(hk0.mp (l2.mp q).1).1, (hk0.mp (l2.mp q).1).2, (l2.mp q).2⟩
    refine good (-3) ?_ (by rw [hgo]; simp [fX6_use_b58, l1, y0])
    by_cases g1 : cu = 0
    · subst g1
      have q : ¬ (0 : Int32) < nI 0 := by decide
      by_cases g2 : RS_kind (LG_R lst) i = 1
      · have g3 : ¬ nI b ≤ nI co := by rw [nI_leI (by omega) (by omega)]; intro w; exact c5 ⟨g2, rfl, by omega⟩
        simp [fX5_use, isRow_eq hrs hnr, c1, c2', ei, i200, icl, eu, q, g2, eo, g3]
      · simp [fX5_use, isRow_eq hrs hnr, c1, c2', ei, i200, icl, eu, q, g2]
    · have q : (0 : Int32) < nI cu := by rw [zero_nI]; exact nI_lt (by omega) (by omega)
      simp [fX5_use, isRow_eq hrs hnr, c1, c2', ei, i200, icl, eu, q]
  obtain ⟨g1, g2, g3⟩ := c5
  subst g2
  have y0 : y.1 = 0 := l2.mpr ⟨hk0.mpr ⟨g1, rfl⟩, g3⟩
  have q : ¬ (0 : Int32) < nI 0 := by decide
  have q3 : nI b ≤ nI co := by rw [nI_leI (by omega) (by omega)]; omega
  obtain ⟨-, -, -, am, cv, am1, am2, cv1, hA, hC⟩ := hrok i hin
  have hA' : MS_amount (MS_thrown_s mst 0) i = nI am := by rw [← hA, r3]; rfl
  have hC' : MS_covered (MS_thrown_s mst 0) i = nI cv := by rw [← hC, r6]; rfl
  have eun : fX2_uncovered (LG_R lst) (nI i) = some (nI (am - cv)) := by
    simp only [fX2_uncovered, i200, icl, if_true, hA, hC, pk_sub cv1]
  by_cases c6 : cv + b ≤ am
  case neg =>
    have w1 : ¬ nI b ≤ nI (am - cv) := by rw [nI_leI (by omega) (by omega)]; omega
    have w2 : ¬ nI cv + nI b ≤ nI am := by rw [nI_add, nI_leI (by omega) (by omega)]; exact c6
    exact good (-4) (by simp [fX5_use, isRow_eq hrs hnr, c1, c2', ei, i200, icl, eu, q, g1, eo, q3, eun, w1]) (by rw [hgo]; simp [fX6_use_b58, l1, y0, i200, icl, hA', hC', w2])
  have w1 : nI b ≤ nI (am - cv) := by rw [nI_leI (by omega) (by omega)]; omega
  have w2 : nI cv + nI b ≤ nI am := by rw [nI_add, nI_leI (by omega) (by omega)]; exact c6
  obtain ⟨S', sz', gs, m1, m2, m3, m4⟩ := mark_eq hok (by omega) ha1 hb1 c4 (RS_unit (LG_R lst) i) (nI i)
  obtain ⟨v, v1, v2, v3⟩ := use_mark (m := MS_thrown_s mst 0) (nI i) ha1 (show a + b ≤ 20001 by omega)
  have vc : MS_covered v.1 = MS_covered mst := by rw [v2]; rfl
  have allOwn : ∀ x, a ≤ x → x < a + b → MS_owner mst x = RS_unit (LG_R lst) i := by
    intro x hx1 hx2
    have := cntR_all (p := fun x => decide (MS_owner mst x = RS_unit (LG_R lst) i)) b (by rw [← hco]; exact g3) x hx1 hx2
    simpa using this
  refine ⟨nI cv + nI b, LG_mk (LG_H lst) (RS_covered_s (LG_R lst) (upd (RS_covered (LG_R lst)) i (nI cv + nI b))) (LG_F lst) S' (LG_units lst), MS_covered_s v.1 (upd (MS_covered mst) i (nI cv + nI b)), ?_, ?_, ?_⟩
  · simp [fX5_use, isRow_eq hrs hnr, c1, c2', ei, i200, icl, eu, q, g1, eo, q3, eun, w1, m1, hC, upd_s]
  · rw [hgo]
    have hC2 : MS_covered mst i = nI cv := hC'
    simp [fX6_use_b58, l1, y0, i200, icl, hA', hC', w2, v1, bnd, vc, hC2, MS_covered_covered, upd_s]
  · have vs : MS_serials (MS_covered_s v.1 (upd (MS_covered mst) i (nI cv + nI b))) = nI t := by rw [MS_serials_covered, v2]; exact hser
    have vo : MS_owner v.1 = MS_owner mst := by rw [v2]; rfl
    refine ⟨u, hu1, hu2, hl, ?_, ?_, ?_, ?_, ?_⟩
    · rw [MS_units_covered, v2]; exact hm
    · rw [← vc]
      have hb2 : RowRel u (LG_R lst) v.1 := by rw [v2]; exact tr_Row_used (tr_Row_thrown hRow)
      exact RowRel_cover hb2 hrs hin hnr hA hC am1 am2 c6
    · refine tr_Fac_covered ?_
      rw [v2]; exact tr_Fac_used (tr_Fac_thrown hF)
    · refine tr_Hold_covered ?_
      rw [v2]; exact tr_Hold_used (tr_Hold_thrown h7)
    · refine tr_Ser_covered (SerRel_of (fs := gs) (by omega) ?_ (by rw [MS_serials_covered] at vs; exact vs) m4)
      refine ⟨RunP_congr m2.1 (fun x hx1 hx2 => ⟨?_, ?_⟩), m2.2⟩
      · rw [vo]
        by_cases g : a ≤ x ∧ x < a + b
        · rw [if_pos g]; exact allOwn x g.1 g.2
        · rw [if_neg g]
      · rw [v3]; rfl
