/-! owner, usedFor, free, runs, run -/
theorem one_nI : (1 : Int32) = nI 1 := rfl
theorem zero_nI : (0 : Int32) = nI 0 := rfl
theorem lt1_toInt {x : Int32} : x < 1 ↔ x.toInt < 1 := by
  rw [Int32.lt_iff_toInt_lt]; exact Iff.rfl
theorem ge1 {x : Int32} (h : ¬ x < 1) : ∃ a, 1 ≤ a ∧ a < 2 ^ 31 ∧ x = nI a := by
  rw [lt1_toInt] at h
  obtain ⟨a, ha, rfl⟩ := nI_of (x := x) (by rw [Int32.lt_iff_toInt_lt, toInt0]; omega)
  rw [nI_toInt ha] at h
  exact ⟨a, by omega, ha, rfl⟩
theorem areIssued_lt {S : SS} {x n : Int32} (h : x < 1) : fX3_areIssued S x n = some 0 := by unfold fX3_areIssued; rw [if_pos h]
theorem areIssued_eq {S : SS} {t a b : Nat} (hi : SS_issued S = nI t) (ht : t ≤ 20000) (h1 : 1 ≤ a) (ha : a < 2 ^ 31) (h2 : 1 ≤ b) (hb : b < 2 ^ 31) : fX3_areIssued S (nI a) (nI b) = some (if a + b ≤ t + 1 then 1 else 0) := by
  unfold fX3_areIssued
  rw [hi, if_neg (by rw [one_nI, nI_ltI ha (by omega)]; omega)]
  by_cases q : t < a
  · rw [if_pos (nI_lt q ha), if_neg (by omega)]
  · rw [if_neg (by rw [nI_ltI (by omega) ha]; exact q), pk_sub (by omega), nI_1]
    by_cases q2 : t - a + 1 < b
    · rw [if_pos (nI_lt q2 hb), if_neg (by omega)]
    · rw [if_neg (by rw [nI_ltI (by omega) hb]; exact q2), if_pos (by omega)]
theorem noSerials_lt {m : MS} {x n : Int32} (h : x < 1) : fX6_noSerials m x n = some 1 := by unfold fX6_noSerials fX6_noSerials_b21; rw [if_pos h]
theorem cmp_le (x y : Int64) : lg_cmp x y ≤ 0 ↔ x ≤ y := by
  have h := cmp_gt x y
  rw [← Int32.not_lt, h, Int64.not_lt]
theorem noSerials_eq {m : MS} {t a b : Nat} (hi : MS_serials m = nI t) (ht : t ≤ 20000) (h1 : 1 ≤ a) (ha : a < 2 ^ 31) (h2 : 1 ≤ b) (hb : b < 2 ^ 31) : fX6_noSerials m (nI a) (nI b) = some (if a + b ≤ t + 1 then 0 else 1) := by
  unfold fX6_noSerials fX6_noSerials_b21
  rw [hi, if_neg (by rw [one_nI, nI_ltI ha (by omega)]; omega)]
  have e : (Int32.toInt64 (nI a) + Int32.toInt64 (nI b)) - (1 : Int64) = lN (a + b - 1) := by
    show (nI a).toInt64 + (nI b).toInt64 - lN 1 = _
    rw [nI_l ha, nI_l hb, lN_add, lN_sub (by omega)]
  rw [e, nI_l (show t < 2 ^ 31 by omega)]
  simp only [cmp_le, pk_lLE (show a + b - 1 < 2 ^ 63 by omega) (show t < 2 ^ 63 by omega)]
  by_cases q : a + b ≤ t + 1
  · rw [if_pos (by omega), if_pos q]
  · rw [if_neg (by omega), if_neg q]
theorem inSer_eq {m : MS} {t : Nat} (hi : MS_serials m = nI t) (ht : t ≤ 20000) (x : Int32) : fX6_in (Int32.toInt64 x) 1 (Int32.toInt64 (MS_serials m)) = some (if 1 ≤ x.toInt ∧ x.toInt ≤ t then 1 else 0) := by
  rw [in_eq, hi, Int32.toInt_toInt64, nI_toInt (by omega)]; rfl
theorem st_owner {k : Nat} {lst : LG} {mst : MS} (hR : Rel k lst mst) (hk : k < 512) (z1 : Int32) : ∃ (r : Int32) (mst2 : MS), fX5_owner lst z1 = some r ∧ fX6_owner mst z1 = some (r, mst2) ∧ Rel (k + 1) lst mst2 := by
  have hR0 := hR
  obtain ⟨u, hu1, hu2, hl, hm, hRow, hF, h7, h8⟩ := hR
  obtain ⟨sz, t, fs, hsz, hok, hser, hadj⟩ := SerRel_iff.mp h8
  have ht := hok.2.2.2.2.2.2.2
  have hi := hok.2.2.2.2.2.2.1
  have hser' : MS_serials (MS_thrown_s mst 0) = nI t := hser
  have good : ∀ v : Int32, fX5_owner lst z1 = some v → fX6_owner mst z1 = some (v, MS_thrown_s mst 0) → ∃ (r : Int32) (mst2 : MS), fX5_owner lst z1 = some r ∧ fX6_owner mst z1 = some (r, mst2) ∧ Rel (k + 1) lst mst2 := fun v h1 h2 => ⟨v, _, h1, h2, Rel_up (Rel_thr hR0)⟩
  by_cases c1 : z1 < 1
  · have q : ¬ (1 ≤ z1.toInt ∧ z1.toInt ≤ (t : Int)) := by rw [lt1_toInt] at c1; omega
    exact good (-1) (by simp [fX5_owner, areIssued_lt c1]) (by simp [fX6_owner, bnd, inSer_eq hser' ht, q])
  obtain ⟨a, ha1, ha2, rfl⟩ := ge1 c1
  have e := areIssued_eq hi ht ha1 ha2 (Nat.le_refl 1) (by omega)
  by_cases c2 : a ≤ t
  case neg =>
    have q : ¬ (1 ≤ (nI a).toInt ∧ (nI a).toInt ≤ (t : Int)) := by rw [nI_toInt ha2]; omega
    rw [if_neg (by omega)] at e
    exact good (-1) (by simp [fX5_owner, one_nI, e]) (by simp [fX6_owner, bnd, inSer_eq hser' ht, q])
  have q : (1 ≤ (nI a).toInt ∧ (nI a).toInt ≤ (t : Int)) := by rw [nI_toInt ha2]; omega
  rw [if_pos (by omega)] at e
  obtain ⟨i, hi1, hi2, hi3, hrw⟩ := runWith_eq hok ha1 c2
  have sl := sz_le hok
  have c3 : inb (nI i) (SS_cap (LG_S lst)) = true := inb_nI (by have := hok.2.2.1; omega) (by have := hok.2.2.2.2.1; omega)
  have c4 : (nI i).toNatClampNeg = i := nI_clamp (by omega)
  have c5 : inb (nI a) 20001 = true := inb_nI (by omega) (by omega)
  have c6 : (nI a).toNatClampNeg = a := nI_clamp ha2
  have hv := hok.1.2.2.2 i hi1 a hi2 hi3
  refine good (SS_owner (LG_S lst) i) ?_ ?_
  · simp [fX5_owner, one_nI, e, hrw, c3, c4]
    intro h; exact absurd h (by decide)
  · have : MS_owner (MS_thrown_s mst 0) a = SS_owner (LG_S lst) i := hv.1
    simp [fX6_owner, bnd, inSer_eq hser' ht, q, c5, c6, this]
theorem st_usedFor {k : Nat} {lst : LG} {mst : MS} (hR : Rel k lst mst) (hk : k < 512) (z1 : Int32) : ∃ (r : Int32) (mst2 : MS), fX5_usedFor lst z1 = some r ∧ fX6_usedFor mst z1 = some (r, mst2) ∧ Rel (k + 1) lst mst2 := by
  have hR0 := hR
  obtain ⟨u, hu1, hu2, hl, hm, hRow, hF, h7, h8⟩ := hR
  obtain ⟨sz, t, fs, hsz, hok, hser, hadj⟩ := SerRel_iff.mp h8
  have ht := hok.2.2.2.2.2.2.2
  have hi := hok.2.2.2.2.2.2.1
  have hser' : MS_serials (MS_thrown_s mst 0) = nI t := hser
  have good : ∀ v : Int32, fX5_usedFor lst z1 = some v → fX6_usedFor mst z1 = some (v, MS_thrown_s mst 0) → ∃ (r : Int32) (mst2 : MS), fX5_usedFor lst z1 = some r ∧ fX6_usedFor mst z1 = some (r, mst2) ∧ Rel (k + 1) lst mst2 := fun v h1 h2 => ⟨v, _, h1, h2, Rel_up (Rel_thr hR0)⟩
  by_cases c1 : z1 < 1
  · have q : ¬ (1 ≤ z1.toInt ∧ z1.toInt ≤ (t : Int)) := by rw [lt1_toInt] at c1; omega
    exact good (-1) (by simp [fX5_usedFor, areIssued_lt c1]) (by simp [fX6_usedFor, bnd, inSer_eq hser' ht, q])
  obtain ⟨a, ha1, ha2, rfl⟩ := ge1 c1
  have e := areIssued_eq hi ht ha1 ha2 (Nat.le_refl 1) (by omega)
  by_cases c2 : a ≤ t
  case neg =>
    have q : ¬ (1 ≤ (nI a).toInt ∧ (nI a).toInt ≤ (t : Int)) := by rw [nI_toInt ha2]; omega
    rw [if_neg (by omega)] at e
    exact good (-1) (by simp [fX5_usedFor, one_nI, e]) (by simp [fX6_usedFor, bnd, inSer_eq hser' ht, q])
  have q : (1 ≤ (nI a).toInt ∧ (nI a).toInt ≤ (t : Int)) := by rw [nI_toInt ha2]; omega
  rw [if_pos (by omega)] at e
  obtain ⟨i, hi1, hi2, hi3, hrw⟩ := runWith_eq hok ha1 c2
  have sl := sz_le hok
  have c3 : inb (nI i) (SS_cap (LG_S lst)) = true := inb_nI (by have := hok.2.2.1; omega) (by have := hok.2.2.2.2.1; omega)
  have c4 : (nI i).toNatClampNeg = i := nI_clamp (by omega)
  have c5 : inb (nI a) 20001 = true := inb_nI (by omega) (by omega)
  have c6 : (nI a).toNatClampNeg = a := nI_clamp ha2
  have hv := hok.1.2.2.2 i hi1 a hi2 hi3
  refine good (SS_row (LG_S lst) i) ?_ ?_
  · simp [fX5_usedFor, one_nI, e, hrw, c3, c4]
    intro h; exact absurd h (by decide)
  · have : MS_used (MS_thrown_s mst 0) a = SS_row (LG_S lst) i := hv.2
    simp [fX6_usedFor, bnd, inSer_eq hser' ht, q, c5, c6, this]
theorem st_free {k : Nat} {lst : LG} {mst : MS} (hR : Rel k lst mst) (hk : k < 512) (z1 : Int32) : ∃ (r : Int32) (mst2 : MS), fX5_free lst z1 = some r ∧ fX6_free mst z1 = some (r, mst2) ∧ Rel (k + 1) lst mst2 := by
  have hR0 := hR
  obtain ⟨u, hu1, hu2, hl, hm, hRow, hF, h7, h8⟩ := hR
  obtain ⟨sz, t, fs, hsz, hok, hser, hadj⟩ := SerRel_iff.mp h8
  have ht := hok.2.2.2.2.2.2.2
  have hm' : MS_units (MS_thrown_s mst 0) = nI u := hm
  have good : ∀ v : Int32, fX5_free lst z1 = some v → fX6_free mst z1 = some (v, MS_thrown_s mst 0) → ∃ (r : Int32) (mst2 : MS), fX5_free lst z1 = some r ∧ fX6_free mst z1 = some (r, mst2) ∧ Rel (k + 1) lst mst2 := fun v h1 h2 => ⟨v, _, h1, h2, Rel_up (Rel_thr hR0)⟩
  by_cases c1 : inb z1 u = true
  case neg => exact good (-1) (by simp [fX5_free, isUnit_eq hl hu2, c1]) (by simp [fX6_free, bnd, noUnit_eq hm' hu1 hu2, c1])
  have hser' : MS_serials (MS_thrown_s mst 0) = nI t := hser
  have key : ∃ r, loopN (fun (s : Int32 × Int32) => fX6_free_l19 (MS_thrown_s mst 0) z1 s.1 s.2) fuelN ((0 : Int32), (1 : Int32)) = some r ∧ r.1 = nI (cntR (fun x => decide (MS_owner mst x = z1) && decide (MS_used mst x = -9)) 1 t) := by
    refine loop_f (fun i s => s = (nI (cntR (fun x => decide (MS_owner mst x = z1) && decide (MS_used mst x = -9)) 1 i), nI (1 + i))) _ t (by omega) rfl ?_ ?_
    · rintro i s hi rfl
      left
      have d1 : ¬ nI t < nI (1 + i) := by rw [nI_ltI (by omega) (by omega)]; omega
      have d2 : inb (nI (1 + i)) 20001 = true := inb_nI (by omega) (by omega)
      have d3 : (nI (1 + i)).toNatClampNeg = 1 + i := nI_clamp (by omega)
      refine ⟨_, ?_, rfl⟩
      have e0 : ∀ x : Int32, x + 0 = x := fun x => Int32.add_zero x
      have e1 : nI (1 + i) + 1 = nI (1 + (i + 1)) := nI_1 (1 + i)
      simp only [fX6_free_l19, fX6_free_b53, fX6_free_b54, hser', d1, d2, d3, if_false, if_true, MS_owner_thrown, MS_used_thrown, e1, cntR, e0]
      by_cases g : MS_owner mst (1 + i) = z1
      · by_cases g2 : MS_used mst (1 + i) = -9
        · simp [g, g2, nI_1]
        · simp [g, g2]
      · simp [g]
    · rintro s rfl
      refine ⟨(nI (cntR (fun x => decide (MS_owner mst x = z1) && decide (MS_used mst x = -9)) 1 t), nI (1 + t)), ?_, rfl⟩
      have d1 : nI t < nI (1 + t) := nI_lt (by omega) (by omega)
      simp only [fX6_free_l19, hser', d1, if_true]
  obtain ⟨r, k1, k2⟩ := key
  refine good r.1 ?_ ?_
  · simp [fX5_free, isUnit_eq hl hu2, c1, unusedOf_eq hok z1, k2]
  · simp [fX6_free, bnd, noUnit_eq hm' hu1 hu2, c1, k1]
/-- a run begins -/
theorem begins_eq {sz t : Nat} {fs : Nat → Nat} {S : SS} {m : MS} (h : RunsOk sz t fs S (MS_owner m) (MS_used m)) (hadj : AdjP (SS_owner S) (SS_row S) sz) {x j : Nat} (h1 : 1 ≤ x) (h2 : x ≤ t) (hj : j ≤ sz) (hx : x ≤ fs j) (hb : ∀ i, i < j → fs i < x) : fX6_begins m (nI x) = some (if x = fs j then 1 else 0) := by
  obtain ⟨⟨p1, p2, p3, p4⟩, p5, p6, p7, p8, p9, p10, p11⟩ := id h
  unfold fX6_begins fX6_begins_b39
  by_cases c1 : x = 1
  · subst c1
    have j0 : j = 0 := by
      rcases Nat.eq_zero_or_pos j with q | q
      · exact q
      · have := hb 0 q; omega
    subst j0
    rw [if_pos one_nI.symm, if_pos p1.symm]
  · have c2 : ¬ nI x = 1 := by rw [one_nI, nI_eq (by omega) (by omega)]; exact c1
    have c3 : inb (nI x) 20001 = true := inb_nI (by omega) (by omega)
    have c4 : nI x - 1 = nI (x - 1) := by rw [one_nI]; exact pk_sub (by omega)
    have c5 : inb (nI (x - 1)) 20001 = true := inb_nI (by omega) (by omega)
    have c6 : (nI x).toNatClampNeg = x := nI_clamp (by omega)
    have c7 : (nI (x - 1)).toNatClampNeg = x - 1 := nI_clamp (by omega)
    have j0 : 0 < j := by
      rcases Nat.eq_zero_or_pos j with q | q
      · subst q; omega
      · exact q
    have hl := hb (j - 1) (by omega)
    have ej : j - 1 + 1 = j := by omega
    have v1 := p4 (j - 1) (by omega) (x - 1) (by omega) (by rw [ej]; omega)
    simp only [c2, c3, c4, c5, c6, c7, if_true, if_false, v1.1, v1.2]
    by_cases q : x = fs j
    · have hjs : j < sz := by
        rcases Nat.lt_or_ge j sz with r | r
        · exact r
        · have : j = sz := by omega
          subst this; omega
      have v2 := p4 j hjs x (by omega) (by have := p3 j hjs; omega)
      rw [v2.1, v2.2, if_pos q]
      have ad := hadj (j - 1) (by omega)
      rw [ej] at ad
      by_cases g1 : SS_owner S j = SS_owner S (j - 1)
      · rw [if_pos g1]
        rcases ad with ad | ad
        · exact absurd g1.symm ad
        · rw [if_neg (fun g => ad g.symm)]
      · rw [if_neg g1]
    · have v2 := p4 (j - 1) (by omega) x (by omega) (by rw [ej]; omega)
      rw [v2.1, v2.2, if_neg q]
      simp
theorem st_runs {k : Nat} {lst : LG} {mst : MS} (hR : Rel k lst mst) (hk : k < 512) : ∃ (r : Int32) (mst2 : MS), fX5_runs lst  = some r ∧ fX6_runs mst  = some (r, mst2) ∧ Rel (k + 1) lst mst2 := by
  have hR0 := hR
  obtain ⟨u, hu1, hu2, hl, hm, hRow, hF, h7, h8⟩ := hR
  obtain ⟨sz, t, fs, hsz, hok, hser, hadj⟩ := SerRel_iff.mp h8
  have ht := hok.2.2.2.2.2.2.2
  have hs := sz_le hok
  have hser' : MS_serials (MS_thrown_s mst 0) = nI t := hser
  have hok' : RunsOk sz t fs (LG_S lst) (MS_owner (MS_thrown_s mst 0)) (MS_used (MS_thrown_s mst 0)) := hok
  have key : ∃ r, loopN (fun (s : Int32 × Int32) => fX6_runs_l9 (MS_thrown_s mst 0) s.1 s.2) fuelN ((0 : Int32), (1 : Int32)) = some r ∧ r.1 = nI sz := by
    refine loop_f (fun i s => ∃ j, j ≤ sz ∧ 1 + i ≤ fs j ∧ (∀ q, q < j → fs q < 1 + i) ∧ s = (nI j, nI (1 + i))) _ t (by omega) ⟨0, Nat.zero_le _, by have := hok.1.1; omega, fun q hq => by omega, rfl⟩ ?_ ?_
    · rintro i s hi ⟨j, j1, j2, j3, rfl⟩
      left
      have d1 : ¬ nI t < nI (1 + i) := by rw [nI_ltI (by omega) (by omega)]; omega
      have e1 : nI (1 + i) + 1 = nI (1 + (i + 1)) := nI_1 (1 + i)
      have bg := begins_eq hok' hadj (x := 1 + i) (j := j) (by omega) (by omega) j1 j2 j3
      by_cases q : 1 + i = fs j
      · have hjs : j < sz := by
          rcases Nat.lt_or_ge j sz with r | r
          · exact r
          · have : j = sz := by omega
            subst this; have := hok.2.1; omega
        rw [if_pos q] at bg
        have := hok.1.2.2.1 j hjs
        refine ⟨(nI (j + 1), nI (1 + (i + 1))), ?_, j + 1, by omega, by omega, ?_, rfl⟩
        · simp [fX6_runs_l9, fX6_runs_b31, hser', d1, bg, e1, nI_1]
        · intro a ha
          by_cases g : a = j
          · subst g; omega
          · have := j3 a (by omega); omega
      · rw [if_neg q] at bg
        refine ⟨(nI j, nI (1 + (i + 1))), ?_, j, j1, by omega, fun a ha => by have := j3 a ha; omega, rfl⟩
        simp [fX6_runs_l9, fX6_runs_b31, hser', d1, bg, e1]
    · rintro s ⟨j, j1, j2, j3, rfl⟩
      have d1 : nI t < nI (1 + t) := nI_lt (by omega) (by omega)
      have hj : j = sz := by
        have a := fs_mono hok.1.2.2.1 sz (Nat.le_refl _) j j1
        have b := hok.2.1
        omega
      subst hj
      exact ⟨(nI j, nI (1 + t)), by simp only [fX6_runs_l9, hser', d1, if_true], rfl⟩
  obtain ⟨r, k1, k2⟩ := key
  refine ⟨nI sz, MS_thrown_s mst 0, ?_, ?_, Rel_up (Rel_thr hR0)⟩
  · unfold fX5_runs; rw [hok.2.2.2.2.2.1]
  · simp only [fX6_runs, bnd, k1, Option.bind_some, k2]
theorem st_run {k : Nat} {lst : LG} {mst : MS} (hR : Rel k lst mst) (hk : k < 512) (z1 z2 : Int32) : ∃ (r : Int32) (mst2 : MS), fX5_run lst z1 z2 = some r ∧ fX6_run mst z1 z2 = some (r, mst2) ∧ Rel (k + 1) lst mst2 := by
  have hR0 := hR
  obtain ⟨u, hu1, hu2, hl, hm, hRow, hF, h7, h8⟩ := hR
  obtain ⟨sz, t, fs, hsz, hok, hser, hadj⟩ := SerRel_iff.mp h8
  have ht := hok.2.2.2.2.2.2.2
  have hs := sz_le hok
  have hser' : MS_serials (MS_thrown_s mst 0) = nI t := hser
  have hok' : RunsOk sz t fs (LG_S lst) (MS_owner (MS_thrown_s mst 0)) (MS_used (MS_thrown_s mst 0)) := hok
  have m1 : (-1 : Int32) + 1 = nI 0 := by decide
  have good : ∀ v : Int32, fX5_run lst z1 z2 = some v → fX6_run mst z1 z2 = some (v, MS_thrown_s mst 0) → ∃ (r : Int32) (mst2 : MS), fX5_run lst z1 z2 = some r ∧ fX6_run mst z1 z2 = some (r, mst2) ∧ Rel (k + 1) lst mst2 := fun v h1 h2 => ⟨v, _, h1, h2, Rel_up (Rel_thr hR0)⟩
  -- the count of runs begun, less one
  have pj : ∀ j, nI j - 1 + 1 = nI j := fun j => Int32.sub_add_cancel _ _
  have key : ∃ r, loopN (fun (s : Int32 × Int32 × Int32 × Int32) => fX6_run_l16 (MS_thrown_s mst 0) z1 z2 s.1 s.2.1 s.2.2.1 s.2.2.2) fuelN ((-1 : Int32), (0 : Int32), (0 : Int32), (1 : Int32)) = some r ∧ ((¬ inb z1 sz = true ∧ r.2.2.1 = 0) ∨ ∃ i0, i0 < sz ∧ z1 = nI i0 ∧ r.2.1 = nI (fs i0) ∧ r.2.2.1 = nI (fs (i0 + 1) - fs i0)) := by
    refine loop_f (fun i s => ∃ j, j ≤ sz ∧ 1 + i ≤ fs j ∧ (∀ q, q < j → fs q < 1 + i) ∧ s.1 = nI j - 1 ∧ s.2.2.2 = nI (1 + i) ∧ ((¬ inb z1 sz = true ∧ s.2.2.1 = 0) ∨ ∃ i0, i0 < sz ∧ z1 = nI i0 ∧ ((j ≤ i0 ∧ s.2.1 = 0 ∧ s.2.2.1 = 0) ∨ (i0 < j ∧ s.2.1 = nI (fs i0) ∧ s.2.2.1 = nI (min (1 + i) (fs (i0 + 1)) - fs i0))))) _ t (by omega) ⟨0, Nat.zero_le _, by have := hok.1.1; omega, fun q hq => by omega, by decide, rfl, ?_⟩ ?_ ?_
    · by_cases c : inb z1 sz = true
      · right
        obtain ⟨i0, hi0, rfl⟩ := inb_of c (by omega)
        exact ⟨i0, hi0, rfl, Or.inl ⟨Nat.zero_le _, rfl, rfl⟩⟩
      · exact Or.inl ⟨c, rfl⟩
    · rintro i ⟨s1, s2, s3, s4⟩ hi ⟨j, j1, j2, j3, q1, q2, q3⟩
      simp only at q1 q2 q3
      subst q1; subst q2
      left
      have d1 : ¬ nI t < nI (1 + i) := by rw [nI_ltI (by omega) (by omega)]; omega
      have e1 : nI (1 + i) + 1 = nI (1 + (i + 1)) := nI_1 (1 + i)
      have e0 : ∀ x : Int32, x + 0 = x := fun x => Int32.add_zero x
      have bg := begins_eq hok' hadj (x := 1 + i) (j := j) (by omega) (by omega) j1 j2 j3
      by_cases q : 1 + i = fs j
      · have hjs : j < sz := by
          rcases Nat.lt_or_ge j sz with r | r
          · exact r
          · have : j = sz := by omega
            subst this; have := hok.2.1; omega
        rw [if_pos q] at bg
        have hlt := hok.1.2.2.1 j hjs
        have j3' : ∀ a, a < j + 1 → fs a < 1 + (i + 1) := by
          intro a ha
          by_cases g : a = j
          · subst g; omega
          · have := j3 a (by omega); omega
        have ejj : nI (j + 1) - 1 = nI j := nI_pred j
        have t10 : ¬ (1 : Int32) = 0 := by decide
        by_cases g : nI j = z1
        · rcases q3 with ⟨q3, -⟩ | ⟨i0, h1, h2, h3⟩
          · exact absurd (by rw [← g]; exact inb_nI hjs (by omega)) q3
          · have hij : i0 = j := by rw [h2, nI_eq (by omega) (by omega)] at g; omega
            subst hij
            rcases h3 with ⟨-, h4, h5⟩ | ⟨h3, -⟩
            · subst h4; subst h5
              refine ⟨(nI i0, nI (1 + i), 0 + 1, nI (1 + (i + 1))), ?_, i0 + 1, by omega, by omega, j3', ejj.symm, rfl, Or.inr ⟨i0, h1, h2, Or.inr ⟨by omega, by rw [q], ?_⟩⟩⟩
              · simp only [fX6_run_l16, fX6_run_b40, fX6_run_b59, fX6_run_b73, hser', d1, bg, e1, pj, g, t10, if_true, if_false, Option.bind_some, Int32.sub_add_cancel]
              · show (0 : Int32) + 1 = _
                rw [show min (1 + (i + 1)) (fs (i0 + 1)) - fs i0 = 1 by omega]; decide
            · omega
        · refine ⟨(nI j, s2, s3, nI (1 + (i + 1))), ?_, j + 1, by omega, by omega, j3', ejj.symm, rfl, ?_⟩
          · simp only [fX6_run_l16, fX6_run_b40, fX6_run_b57, fX6_run_b59, fX6_run_b73, hser', d1, bg, e1, e0, pj, g, t10, if_true, if_false, Option.bind_some]
          · rcases q3 with q3 | ⟨i0, h1, h2, h3⟩
            · exact Or.inl q3
            · right
              refine ⟨i0, h1, h2, ?_⟩
              have hij : i0 ≠ j := fun hh => g (by rw [h2, hh])
              rcases h3 with ⟨h3, h4, h5⟩ | ⟨h3, h4, h5⟩
              · exact Or.inl ⟨by omega, h4, h5⟩
              · refine Or.inr ⟨by omega, h4, ?_⟩
                show s3 = _
                have := fs_mono hok.1.2.2.1 j (by omega) (i0 + 1) (by omega)
                rw [h5, show min (1 + i) (fs (i0 + 1)) = min (1 + (i + 1)) (fs (i0 + 1)) by omega]
      · rw [if_neg q] at bg
        have jp : 0 < j := by
          rcases Nat.eq_zero_or_pos j with r | r
          · subst r; have := hok.1.1; omega
          · exact r
        have j3' : ∀ a, a < j → fs a < 1 + (i + 1) := fun a ha => by have := j3 a ha; omega
        have en : nI j - 1 = nI (j - 1) := by rw [one_nI]; exact pk_sub jp
        by_cases g : nI (j - 1) = z1
        · rcases q3 with ⟨q3, -⟩ | ⟨i0, h1, h2, h3⟩
          · exact absurd (by rw [← g]; exact inb_nI (by omega) (by omega)) q3
          · have hij : i0 = j - 1 := by rw [h2, nI_eq (by omega) (by omega)] at g; omega
            rcases h3 with ⟨h3, -⟩ | ⟨h3, h4, h5⟩
            · omega
            · have nz : ¬ s2 = 0 := by
                have := fs_le hok (i := i0) (by omega)
                rw [h4, zero_nI, nI_eq (by omega) (by omega)]; omega
              have ei : i0 + 1 = j := by omega
              have lj := j3 i0 (by omega)
              refine ⟨(nI j - 1, s2, s3 + 1, nI (1 + (i + 1))), ?_, j, j1, by omega, j3', rfl, rfl, Or.inr ⟨i0, h1, h2, Or.inr ⟨by omega, h4, ?_⟩⟩⟩
              · simp only [fX6_run_l16, fX6_run_b40, fX6_run_b57, fX6_run_b59, fX6_run_b73, hser', d1, bg, e1, e0, en, g, nz, if_true, if_false, Option.bind_some]
              · show s3 + 1 = _
                rw [h5, nI_1, ei, show min (1 + i) (fs j) - fs i0 + 1 = min (1 + (i + 1)) (fs j) - fs i0 by omega]
        · refine ⟨(nI j - 1, s2, s3, nI (1 + (i + 1))), ?_, j, j1, by omega, j3', rfl, rfl, ?_⟩
          · simp only [fX6_run_l16, fX6_run_b40, fX6_run_b57, fX6_run_b59, fX6_run_b73, hser', d1, bg, e1, e0, en, g, if_true, if_false, Option.bind_some]
          · rcases q3 with q3 | ⟨i0, h1, h2, h3⟩
            · exact Or.inl q3
            · right
              refine ⟨i0, h1, h2, ?_⟩
              have hij : i0 ≠ j - 1 := fun hh => g (by rw [h2, hh])
              rcases h3 with ⟨h3, h4, h5⟩ | ⟨h3, h4, h5⟩
              · exact Or.inl ⟨h3, h4, h5⟩
              · refine Or.inr ⟨h3, h4, ?_⟩
                show s3 = _
                have a := fs_mono hok.1.2.2.1 (j - 1) (by omega) (i0 + 1) (by omega)
                have b := j3 (j - 1) (by omega)
                rw [h5, show min (1 + i) (fs (i0 + 1)) = min (1 + (i + 1)) (fs (i0 + 1)) by omega]
    · rintro ⟨s1, s2, s3, s4⟩ ⟨j, j1, j2, j3, q1, q2, q3⟩
      simp only at q1 q2 q3
      subst q1; subst q2
      have d1 : nI t < nI (1 + t) := nI_lt (by omega) (by omega)
      have hj : j = sz := by
        have a := fs_mono hok.1.2.2.1 sz (Nat.le_refl _) j j1
        have b := hok.2.1
        omega
      subst hj
      refine ⟨(nI j - 1, s2, s3, nI (1 + t)), by simp only [fX6_run_l16, hser', d1, if_true], ?_⟩
      rcases q3 with q3 | ⟨i0, h1, h2, h3⟩
      · exact Or.inl q3
      · right
        refine ⟨i0, h1, h2, ?_⟩
        rcases h3 with ⟨h3, -⟩ | ⟨h3, h4, h5⟩
        · omega
        · refine ⟨h4, ?_⟩
          show s3 = _
          rw [h5]
          have := (fs_le hok (i := i0 + 1) (by omega)).2
          rw [show min (1 + t) (fs (i0 + 1)) = fs (i0 + 1) by omega]
  obtain ⟨⟨y1, y2, y3, y4⟩, k1, k2⟩ := key
  simp only at k2
  have sz' : SS_size (LG_S lst) = nI sz := hok.2.2.2.2.2.1
  rcases k2 with ⟨k2, rfl⟩ | ⟨i0, h1, rfl, rfl, rfl⟩
  · refine good (-1) ?_ ?_
    · unfold fX5_run
      rw [sz']
      by_cases g : z1 < 0
      · rw [if_pos g]
      · rw [if_neg g, if_neg]
        intro g2
        refine k2 ?_
        rw [inb_iff]
        rw [Int32.lt_iff_toInt_lt, toInt0] at g
        rw [Int32.lt_iff_toInt_lt, nI_toInt (by omega)] at g2
        omega
    · simp only [fX6_run, bnd, k1, Option.bind_some]
      by_cases g : z1 < 0 <;> simp [g]
  · have c1 : ¬ nI i0 < 0 := nI_pos (by omega)
    have c2 : nI i0 < nI sz := nI_lt h1 (by omega)
    have c3 : inb (nI i0) (SS_cap (LG_S lst)) = true := inb_nI (by have := hok.2.2.1; omega) (by have := hok.2.2.2.2.1; omega)
    have c4 : (nI i0).toNatClampNeg = i0 := nI_clamp (by omega)
    have hl := hok.1.2.2.1 i0 h1
    have b1 := fs_le hok (i := i0) (by omega)
    have b2 := fs_le hok (i := i0 + 1) (by omega)
    have c5 : ¬ nI (fs (i0 + 1) - fs i0) = 0 := by rw [zero_nI, nI_eq (by omega) (by omega)]; omega
    have c6 : inb (nI (fs i0)) 20001 = true := inb_nI (by omega) (by omega)
    have c7 : (nI (fs i0)).toNatClampNeg = fs i0 := nI_clamp (by omega)
    have v := hok.1.2.2.2 i0 h1 (fs i0) (Nat.le_refl _) hl
    have A : fX5_run lst (nI i0) z2 = (if z2 = 0 then some (nI (fs i0)) else if z2 = 1 then some (nI (fs (i0 + 1) - fs i0)) else if z2 = 2 then some (SS_owner (LG_S lst) i0) else if z2 = 3 then some (SS_row (LG_S lst) i0) else some (-2)) := by
      simp only [fX5_run, sz', c1, c2, c3, c4, if_true, if_false, hok.1.2.1 i0 h1, lengthOf_eq hok h1, Option.bind_some]
    have B : fX6_run mst (nI i0) z2 = (if z2 = 0 then some (nI (fs i0), MS_thrown_s mst 0) else if z2 = 1 then some (nI (fs (i0 + 1) - fs i0), MS_thrown_s mst 0) else if z2 = 2 then some (SS_owner (LG_S lst) i0, MS_thrown_s mst 0) else if z2 = 3 then some (SS_row (LG_S lst) i0, MS_thrown_s mst 0) else some (-2, MS_thrown_s mst 0)) := by
      simp only [fX6_run, bnd, k1, Option.bind_some, c1, c5, c6, c7, if_true, if_false, MS_owner_thrown, MS_used_thrown, v.1, v.2]
    by_cases w0 : z2 = 0
    · rw [if_pos w0] at A B; exact good _ A B
    rw [if_neg w0] at A B
    by_cases w1 : z2 = 1
    · rw [if_pos w1] at A B; exact good _ A B
    rw [if_neg w1] at A B
    by_cases w2 : z2 = 2
    · rw [if_pos w2] at A B; exact good _ A B
    rw [if_neg w2] at A B
    by_cases w3 : z2 = 3
    · rw [if_pos w3] at A B; exact good _ A B
    rw [if_neg w3] at A B
    exact good _ A B
