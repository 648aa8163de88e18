theorem l_gt {Ln k : Nat} {x3 : Int32} (hx3 : x3 = nI (7 * k)) (hL : Ln ≤ 3584) (hk : k = 513) : Int32.ofNat Ln - 7 < x3 := by
  subst hk
  rw [hx3, Int32.lt_iff_toInt_lt]
  have h1 : (Int32.ofNat Ln - 7).toInt = (Ln : Int) - 7 := pk_sub_toInt (a := Ln) (b := 7) (by omega) (by omega)
  rw [h1, nI_toInt (by omega)]
  omega
theorem l_le {Ln k : Nat} {x3 : Int32} (hx3 : x3 = nI (7 * k)) (hL : Ln ≤ 3584) (cg : ¬ (Int32.ofNat Ln - 7 < x3)) (hk : k < 513 := by omega) : 7 * k + 7 ≤ Ln := by
  rw [hx3, Int32.lt_iff_toInt_lt] at cg
  have h1 : (Int32.ofNat Ln - 7).toInt = (Ln : Int) - 7 := pk_sub_toInt (a := Ln) (b := 7) (by omega) (by omega)
  rw [h1, nI_toInt (by omega)] at cg
  omega
theorem b2i_B (v : Int32) : isB (b2i v) = true := by by_cases h : v = 0 <;> simp [b2i, h, isB]
theorem l_in {Ln i j : Nat} (h : i + 7 ≤ Ln) (hj : j < 7) (hL : Ln ≤ 3584) {x3 xj : Int32} (hx : x3 = nI i) (hxj : xj = nI j) : vp_in (x3 + xj) Ln := by subst hx; subst hxj; rw [nI_add]; exact vp_in_nI (by omega) (by omega)
set_option maxHeartbeats 4000000 in
set_option maxRecDepth 100000 in
theorem law_loop {p : Program} {l : Launch} {e : Env} {s : State} {m : MethodId} {below : List Frame} {meth : Method} {c : Code} {bs Ln : Nat} {xs : Nat → Int32} {dC : Nat → ClassId} {dI : Nat → Nat → Nat} {cI cJ cZ : ClassId} {ax am bm : Nat → Nat} (hL : Ln ≤ 3584) (C0 : lw_At p s m meth c bs Ln xs) (hK : va_K (dC, dI) vwCl (tyT cI cJ cZ) s) : ∀ (n k : Nat) (bx : Nat → Nat) (lst : LG) (mst : MS) (H : Heap) (locs : List Loc) (ls : Array Slot) (x3 : Int32), k + n = 513 → x3 = nI (7 * k) → Rel k lst mst → IN (dC, dI) (WX5 ax bx cI cJ cZ lst ++ WX6 am bm cI cJ cZ mst) (fun q : Nat => s.heap.size ≤ q) s.heap H locs → lv_has ls 4 [(0, .ref bs), (1, .ref (ax 0)), (2, .ref (am 0)), (3, .int x3)] → W p l e room_1 s m #[Value.ref bs] below meth c H locs (100 + 6 * k) (60000 + 12288 * k) (lw_Z below #[Value.ref bs] s) (F0 m 18 ls []) := by
  intro n
  induction n with
  | zero =>
    intro k bx lst mst H locs ls x3 hkn hx3 hR hin hl
    obtain ⟨hx, hb, hr, hml, hown, hts0, hX, hbl, hlocks, hgv⟩ := id C0
    have hbA : ¬ (fun q : Nat => s.heap.size ≤ q) bs := Nat.not_le.mpr hbl
    obtain ⟨hP, hD, hS⟩ := hin
    refine lv_iload_n hx hb dL_law_18 rfl (lv_at hl 3 rfl) ?_
    refine lv_aload_n hx hb dL_law_19 rfl (lv_at hl 0 rfl) ?_
    refine va_slen hx hb hX hbl hbA hS dL_law_20 ?_
    refine lv_bipush (v := (7 : Int32)) hx hb dL_law_21 (by decide) ?_
    refine lv_isub hx hb dL_law_23 ?_
    refine lv_icmp_gt (tgt := 1438) hx hb dL_law_24 (by decide) (fun cg => ?_) (fun cg => ?_)
    · refine lv_iconst (v := (1 : Int32)) hx hb dL_law_1438 (by decide) ?_
      refine W.widen (k := 600000) (n := 7302249) (by omega) (by omega) ?_
      refine va_forget (fun q hq => hS.2.2 q hq) ?_
      exact lw_ret hx hb hr hlocks dL_law_1439
    · exact absurd (l_gt (Ln := Ln) (k := k) hx3 hL (by omega)) cg
  | succ n ih =>
    intro k bx lst mst H locs ls x3 hkn hx3 hR hin hl
    obtain ⟨hx, hb, hr, hml, hown, hts0, hX, hbl, hlocks, hgv⟩ := id C0
    have hbA : ¬ (fun q : Nat => s.heap.size ≤ q) bs := Nat.not_le.mpr hbl
    obtain ⟨hP, hD, hS⟩ := hin
    have hk512 : k < 513 := by omega
    refine lv_iload_n hx hb dL_law_18 rfl (lv_at hl 3 rfl) ?_
    refine lv_aload_n hx hb dL_law_19 rfl (lv_at hl 0 rfl) ?_
    refine va_slen hx hb hX hbl hbA hS dL_law_20 ?_
    refine lv_bipush (v := (7 : Int32)) hx hb dL_law_21 (by decide) ?_
    refine lv_isub hx hb dL_law_23 ?_
    refine lv_icmp_gt (tgt := 1438) hx hb dL_law_24 (by decide) (fun cg => ?_) (fun cg => ?_)
    · refine lv_iconst (v := (1 : Int32)) hx hb dL_law_1438 (by decide) ?_
      refine W.widen (k := 600000) (n := 7302249) (by omega) (by omega) ?_
      refine va_forget (fun q hq => hS.2.2 q hq) ?_
      exact lw_ret hx hb hr hlocks dL_law_1439
    · have hk : 7 * k + 7 ≤ Ln := l_le hx3 hL cg
      have hk5 : k < 512 := by omega
      have hi1 : vp_in (x3 + (1 : Int32)) Ln := l_in hk (j := 1) (by omega) hL hx3 rfl
      have hi2 : vp_in (x3 + (2 : Int32)) Ln := l_in hk (j := 2) (by omega) hL hx3 rfl
      have hi3 : vp_in (x3 + (3 : Int32)) Ln := l_in hk (j := 3) (by omega) hL hx3 rfl
      have hi4 : vp_in (x3 + (4 : Int32)) Ln := l_in hk (j := 4) (by omega) hL hx3 rfl
      have hi5 : vp_in (x3 + (5 : Int32)) Ln := l_in hk (j := 5) (by omega) hL hx3 rfl
      have hi6 : vp_in (x3 + (6 : Int32)) Ln := l_in hk (j := 6) (by omega) hL hx3 rfl
      have hi0 : vp_in x3 Ln := by rw [hx3]; exact vp_in_nI (by omega) (by omega)
      have kk : ∀ (lst2 : LG) (mst2 : MS), Rel (k + 1) lst2 mst2 → ∀ (bx : Nat → Nat) (H : Heap) (locs : List Loc), IN (dC, dI) (WX5 ax bx cI cJ cZ lst2 ++ WX6 am bm cI cJ cZ mst2) (fun q : Nat => s.heap.size ≤ q) s.heap H locs → W p l e room_1 s m #[Value.ref bs] below meth c H locs (100 + 6 * k + 6) (60000 + 12288 * k + 12288) (lw_Z below #[Value.ref bs] s) (F0 m 1432 ls []) := by
        intro lst2 mst2 hR2 bx H locs hin2
        refine lv_iinc (v := x3 + (7 : Int32)) (lv' := [(3, .int (x3 + (7 : Int32))), (0, .ref bs), (1, .ref (ax 0)), (2, .ref (am 0))]) hx hb dL_law_1432 hl (k := 3) rfl rfl (by decide) rfl (fun ls hl => ?_)
        refine lv_goto (tgt := 18) hx hb dL_law_1435 (by decide) ?_
        exact ih (k + 1) bx lst2 mst2 H locs ls (x3 + (7 : Int32)) (by omega) (by rw [hx3]; exact nI_add (7 * k) 7) hR2 hin2 (lv_sub hl [1, 2, 3, 0] rfl)
      refine lv_aload_n hx hb dL_law_27 rfl (lv_at hl 0 rfl) ?_
      refine lv_iload_n hx hb dL_law_28 rfl (lv_at hl 3 rfl) ?_
      refine va_sld hx hb hX hbl hbA hS hi0 dL_law_29 ?_
      refine lv_bipush (v := (31 : Int32)) hx hb dL_law_30 (by decide) ?_
      refine lv_iand hx hb dL_law_32 ?_
      refine lv_topi (fun op hop => ?_)
      by_cases q0 : op = 0
      · refine lv_tableIn (off := 119) (tgt := 152) hx hb dL_law_33 (by rw [q0]; decide) (by rw [q0]; decide) (by rw [q0]; rfl) (by decide) ?_
        obtain ⟨r, lst2, mst2, h1, h2, hR2⟩ := st_unit hR hk5  
        exact lawc_unit C0 hK hi1 hi2 hi3 hi4 hi5 hi6 lst mst r lst2 mst2 h1 h2 (by omega) (by omega) hl ⟨hP, hD, hS⟩ (kk lst2 mst2 hR2)
      by_cases q1 : op = 1
      · refine lv_tableIn (off := 132) (tgt := 165) hx hb dL_law_33 (by rw [q1]; decide) (by rw [q1]; decide) (by rw [q1]; rfl) (by decide) ?_
        obtain ⟨r, lst2, mst2, h1, h2, hR2⟩ := st_hold hR hk5 (xs ((x3 + (1 : Int32))).toNatClampNeg) (xs ((x3 + (2 : Int32))).toNatClampNeg) (xs ((x3 + (3 : Int32))).toNatClampNeg) (xs ((x3 + (4 : Int32))).toNatClampNeg) 
        exact lawc_hold C0 hK hi1 hi2 hi3 hi4 hi5 hi6 lst mst r lst2 mst2 h1 h2 (by omega) (by omega) hl ⟨hP, hD, hS⟩ (kk lst2 mst2 hR2)
      by_cases q2 : op = 2
      · refine lv_tableIn (off := 185) (tgt := 218) hx hb dL_law_33 (by rw [q2]; decide) (by rw [q2]; decide) (by rw [q2]; rfl) (by decide) ?_
        obtain ⟨r, mst2, h1, h2, hR2⟩ := st_holds hR hk5 (xs ((x3 + (1 : Int32))).toNatClampNeg) (xs ((x3 + (2 : Int32))).toNatClampNeg) (xs ((x3 + (3 : Int32))).toNatClampNeg) 
        exact lawc_holds C0 hK hi1 hi2 hi3 hi4 hi5 hi6 lst mst r mst2 h1 h2 (by omega) (by omega) hl ⟨hP, hD, hS⟩ (kk lst mst2 hR2)
      by_cases q3 : op = 3
      · refine lv_tableIn (off := 228) (tgt := 261) hx hb dL_law_33 (by rw [q3]; decide) (by rw [q3]; decide) (by rw [q3]; rfl) (by decide) ?_
        obtain ⟨r, lst2, mst2, h1, h2, hR2⟩ := st_share hR hk5 (xs ((x3 + (1 : Int32))).toNatClampNeg) (xs ((x3 + (2 : Int32))).toNatClampNeg) 
        exact lawc_share C0 hK hi1 hi2 hi3 hi4 hi5 hi6 lst mst r lst2 mst2 h1 h2 (by omega) (by omega) hl ⟨hP, hD, hS⟩ (kk lst2 mst2 hR2)
      by_cases q4 : op = 4
      · refine lv_tableIn (off := 262) (tgt := 295) hx hb dL_law_33 (by rw [q4]; decide) (by rw [q4]; decide) (by rw [q4]; rfl) (by decide) ?_
        obtain ⟨r, lst2, mst2, h1, h2, hR2⟩ := st_days hR hk5 (xs ((x3 + (1 : Int32))).toNatClampNeg) (xs ((x3 + (2 : Int32))).toNatClampNeg) (xs ((x3 + (3 : Int32))).toNatClampNeg) 
        exact lawc_days C0 hK hi1 hi2 hi3 hi4 hi5 hi6 lst mst r lst2 mst2 h1 h2 (by omega) (by omega) hl ⟨hP, hD, hS⟩ (kk lst2 mst2 hR2)
      by_cases q5 : op = 5
      · refine lv_tableIn (off := 306) (tgt := 339) hx hb dL_law_33 (by rw [q5]; decide) (by rw [q5]; decide) (by rw [q5]; rfl) (by decide) ?_
        obtain ⟨r, lst2, mst2, h1, h2, hR2⟩ := st_row hR hk5 (xs ((x3 + (1 : Int32))).toNatClampNeg) (xs ((x3 + (2 : Int32))).toNatClampNeg) (xs ((x3 + (3 : Int32))).toNatClampNeg) (xs ((x3 + (4 : Int32))).toNatClampNeg) (xs ((x3 + (5 : Int32))).toNatClampNeg) 
        exact lawc_row C0 hK hi1 hi2 hi3 hi4 hi5 hi6 lst mst r lst2 mst2 h1 h2 (by omega) (by omega) hl ⟨hP, hD, hS⟩ (kk lst2 mst2 hR2)
      by_cases q6 : op = 6
      · refine lv_tableIn (off := 369) (tgt := 402) hx hb dL_law_33 (by rw [q6]; decide) (by rw [q6]; decide) (by rw [q6]; rfl) (by decide) ?_
        obtain ⟨r, lst2, mst2, h1, h2, hR2⟩ := st_told hR hk5 (xs ((x3 + (1 : Int32))).toNatClampNeg) (xs ((x3 + (2 : Int32))).toNatClampNeg) 
        exact lawc_told C0 hK hi1 hi2 hi3 hi4 hi5 hi6 lst mst r lst2 mst2 h1 h2 (by omega) (by omega) hl ⟨hP, hD, hS⟩ (kk lst2 mst2 hR2)
      by_cases q7 : op = 7
      · refine lv_tableIn (off := 402) (tgt := 435) hx hb dL_law_33 (by rw [q7]; decide) (by rw [q7]; decide) (by rw [q7]; rfl) (by decide) ?_
        obtain ⟨r, lst2, mst2, h1, h2, hR2⟩ := st_factor hR hk5 (xs ((x3 + (1 : Int32))).toNatClampNeg) (xs ((x3 + (2 : Int32))).toNatClampNeg) (xs ((x3 + (3 : Int32))).toNatClampNeg) (xs ((x3 + (4 : Int32))).toNatClampNeg) 
        exact lawc_factor C0 hK hi1 hi2 hi3 hi4 hi5 hi6 lst mst r lst2 mst2 h1 h2 (by omega) (by omega) hl ⟨hP, hD, hS⟩ (kk lst2 mst2 hR2)
      by_cases q8 : op = 8
      · refine lv_tableIn (off := 455) (tgt := 488) hx hb dL_law_33 (by rw [q8]; decide) (by rw [q8]; decide) (by rw [q8]; rfl) (by decide) ?_
        obtain ⟨r, mst2, h1, h2, hR2⟩ := st_factorAs hR hk5 (xs ((x3 + (1 : Int32))).toNatClampNeg) (xs ((x3 + (2 : Int32))).toNatClampNeg) (xs ((x3 + (3 : Int32))).toNatClampNeg) (b2i (xs ((x3 + (4 : Int32))).toNatClampNeg)) (b2i_B _)
        exact lawc_factorAs C0 hK hi1 hi2 hi3 hi4 hi5 hi6 lst mst r mst2 h1 h2 (by omega) (by omega) hl ⟨hP, hD, hS⟩ (kk lst mst2 hR2)
      by_cases q9 : op = 9
      · refine lv_tableIn (off := 524) (tgt := 557) hx hb dL_law_33 (by rw [q9]; decide) (by rw [q9]; decide) (by rw [q9]; rfl) (by decide) ?_
        obtain ⟨r, lst2, mst2, h1, h2, hR2⟩ := st_tons hR hk5 (xs ((x3 + (1 : Int32))).toNatClampNeg) (xs ((x3 + (2 : Int32))).toNatClampNeg) (b2i (xs ((x3 + (3 : Int32))).toNatClampNeg)) (b2i (xs ((x3 + (4 : Int32))).toNatClampNeg)) (b2i_B _) (b2i_B _)
        exact lawc_tons C0 hK hi1 hi2 hi3 hi4 hi5 hi6 lst mst r lst2 mst2 h1 h2 (by omega) (by omega) hl ⟨hP, hD, hS⟩ (kk lst2 mst2 hR2)
      by_cases q10 : op = 10
      · refine lv_tableIn (off := 610) (tgt := 643) hx hb dL_law_33 (by rw [q10]; decide) (by rw [q10]; decide) (by rw [q10]; rfl) (by decide) ?_
        obtain ⟨r, mst2, h1, h2, hR2⟩ := st_changed hR hk5 (xs ((x3 + (1 : Int32))).toNatClampNeg) (xs ((x3 + (2 : Int32))).toNatClampNeg) (xs ((x3 + (3 : Int32))).toNatClampNeg) 
        exact lawc_changed C0 hK hi1 hi2 hi3 hi4 hi5 hi6 lst mst r mst2 h1 h2 (by omega) (by omega) hl ⟨hP, hD, hS⟩ (kk lst mst2 hR2)
      by_cases q11 : op = 11
      · refine lv_tableIn (off := 653) (tgt := 686) hx hb dL_law_33 (by rw [q11]; decide) (by rw [q11]; decide) (by rw [q11]; rfl) (by decide) ?_
        obtain ⟨r, mst2, h1, h2, hR2⟩ := st_change hR hk5 (xs ((x3 + (1 : Int32))).toNatClampNeg) (xs ((x3 + (2 : Int32))).toNatClampNeg) (xs ((x3 + (3 : Int32))).toNatClampNeg) (xs ((x3 + (4 : Int32))).toNatClampNeg) 
        exact lawc_change C0 hK hi1 hi2 hi3 hi4 hi5 hi6 lst mst r mst2 h1 h2 (by omega) (by omega) hl ⟨hP, hD, hS⟩ (kk lst mst2 hR2)
      by_cases q12 : op = 12
      · refine lv_tableIn (off := 706) (tgt := 739) hx hb dL_law_33 (by rw [q12]; decide) (by rw [q12]; decide) (by rw [q12]; rfl) (by decide) ?_
        obtain ⟨r, lst2, mst2, h1, h2, hR2⟩ := st_total hR hk5 (xs ((x3 + (1 : Int32))).toNatClampNeg) (xs ((x3 + (2 : Int32))).toNatClampNeg) (b2i (xs ((x3 + (3 : Int32))).toNatClampNeg)) (b2i (xs ((x3 + (4 : Int32))).toNatClampNeg)) (b2i (xs ((x3 + (5 : Int32))).toNatClampNeg)) (b2i_B _) (b2i_B _) (b2i_B _)
        exact lawc_total C0 hK hi1 hi2 hi3 hi4 hi5 hi6 lst mst r lst2 mst2 h1 h2 (by omega) (by omega) hl ⟨hP, hD, hS⟩ (kk lst2 mst2 hR2)
      by_cases q13 : op = 13
      · refine lv_tableIn (off := 818) (tgt := 851) hx hb dL_law_33 (by rw [q13]; decide) (by rw [q13]; decide) (by rw [q13]; rfl) (by decide) ?_
        obtain ⟨r, lst2, mst2, h1, h2, hR2⟩ := st_anew hR hk5 (xs ((x3 + (1 : Int32))).toNatClampNeg) (xs ((x3 + (2 : Int32))).toNatClampNeg) (xs ((x3 + (3 : Int32))).toNatClampNeg) (b2i (xs ((x3 + (4 : Int32))).toNatClampNeg)) (b2i (xs ((x3 + (5 : Int32))).toNatClampNeg)) (b2i (xs ((x3 + (6 : Int32))).toNatClampNeg)) (b2i_B _) (b2i_B _) (b2i_B _)
        exact lawc_anew C0 hK hi1 hi2 hi3 hi4 hi5 hi6 lst mst r lst2 mst2 h1 h2 (by omega) (by omega) hl ⟨hP, hD, hS⟩ (kk lst2 mst2 hR2)
      by_cases q14 : op = 14
      · refine lv_tableIn (off := 942) (tgt := 975) hx hb dL_law_33 (by rw [q14]; decide) (by rw [q14]; decide) (by rw [q14]; rfl) (by decide) ?_
        obtain ⟨r, lst2, mst2, h1, h2, hR2⟩ := st_part hR hk5 (xs ((x3 + (1 : Int32))).toNatClampNeg) (xs ((x3 + (2 : Int32))).toNatClampNeg) (xs ((x3 + (3 : Int32))).toNatClampNeg) (b2i (xs ((x3 + (4 : Int32))).toNatClampNeg)) (b2i (xs ((x3 + (5 : Int32))).toNatClampNeg)) (b2i (xs ((x3 + (6 : Int32))).toNatClampNeg)) (b2i_B _) (b2i_B _) (b2i_B _)
        exact lawc_part C0 hK hi1 hi2 hi3 hi4 hi5 hi6 lst mst r lst2 mst2 h1 h2 (by omega) (by omega) hl ⟨hP, hD, hS⟩ (kk lst2 mst2 hR2)
      by_cases q15 : op = 15
      · refine lv_tableIn (off := 1066) (tgt := 1099) hx hb dL_law_33 (by rw [q15]; decide) (by rw [q15]; decide) (by rw [q15]; rfl) (by decide) ?_
        obtain ⟨r, lst2, mst2, h1, h2, hR2⟩ := st_doubles hR hk5 (xs ((x3 + (1 : Int32))).toNatClampNeg) 
        exact lawc_doubles C0 hK hi1 hi2 hi3 hi4 hi5 hi6 lst mst r lst2 mst2 h1 h2 (by omega) (by omega) hl ⟨hP, hD, hS⟩ (kk lst2 mst2 hR2)
      by_cases q16 : op = 16
      · refine lv_tableIn (off := 1089) (tgt := 1122) hx hb dL_law_33 (by rw [q16]; decide) (by rw [q16]; decide) (by rw [q16]; rfl) (by decide) ?_
        obtain ⟨r, lst2, mst2, h1, h2, hR2⟩ := st_onPath hR hk5 (xs ((x3 + (1 : Int32))).toNatClampNeg) (xs ((x3 + (2 : Int32))).toNatClampNeg) (xs ((x3 + (3 : Int32))).toNatClampNeg) (xs ((x3 + (4 : Int32))).toNatClampNeg) 
        exact lawc_onPath C0 hK hi1 hi2 hi3 hi4 hi5 hi6 lst mst r lst2 mst2 h1 h2 (by omega) (by omega) hl ⟨hP, hD, hS⟩ (kk lst2 mst2 hR2)
      by_cases q17 : op = 17
      · refine lv_tableIn (off := 1142) (tgt := 1175) hx hb dL_law_33 (by rw [q17]; decide) (by rw [q17]; decide) (by rw [q17]; rfl) (by decide) ?_
        obtain ⟨r, lst2, mst2, h1, h2, hR2⟩ := st_issue hR hk5 (xs ((x3 + (1 : Int32))).toNatClampNeg) (xs ((x3 + (2 : Int32))).toNatClampNeg) 
        exact lawc_issue C0 hK hi1 hi2 hi3 hi4 hi5 hi6 lst mst r lst2 mst2 h1 h2 (by omega) (by omega) hl ⟨hP, hD, hS⟩ (kk lst2 mst2 hR2)
      by_cases q18 : op = 18
      · refine lv_tableIn (off := 1175) (tgt := 1208) hx hb dL_law_33 (by rw [q18]; decide) (by rw [q18]; decide) (by rw [q18]; rfl) (by decide) ?_
        obtain ⟨r, lst2, mst2, h1, h2, hR2⟩ := st_move hR hk5 (xs ((x3 + (1 : Int32))).toNatClampNeg) (xs ((x3 + (2 : Int32))).toNatClampNeg) (xs ((x3 + (3 : Int32))).toNatClampNeg) 
        exact lawc_move C0 hK hi1 hi2 hi3 hi4 hi5 hi6 lst mst r lst2 mst2 h1 h2 (by omega) (by omega) hl ⟨hP, hD, hS⟩ (kk lst2 mst2 hR2)
      by_cases q19 : op = 19
      · refine lv_tableIn (off := 1218) (tgt := 1251) hx hb dL_law_33 (by rw [q19]; decide) (by rw [q19]; decide) (by rw [q19]; rfl) (by decide) ?_
        obtain ⟨r, lst2, mst2, h1, h2, hR2⟩ := st_use hR hk5 (xs ((x3 + (1 : Int32))).toNatClampNeg) (xs ((x3 + (2 : Int32))).toNatClampNeg) (xs ((x3 + (3 : Int32))).toNatClampNeg) 
        exact lawc_use C0 hK hi1 hi2 hi3 hi4 hi5 hi6 lst mst r lst2 mst2 h1 h2 (by omega) (by omega) hl ⟨hP, hD, hS⟩ (kk lst2 mst2 hR2)
      by_cases q20 : op = 20
      · refine lv_tableIn (off := 1261) (tgt := 1294) hx hb dL_law_33 (by rw [q20]; decide) (by rw [q20]; decide) (by rw [q20]; rfl) (by decide) ?_
        obtain ⟨r, mst2, h1, h2, hR2⟩ := st_owner hR hk5 (xs ((x3 + (1 : Int32))).toNatClampNeg) 
        exact lawc_owner C0 hK hi1 hi2 hi3 hi4 hi5 hi6 lst mst r mst2 h1 h2 (by omega) (by omega) hl ⟨hP, hD, hS⟩ (kk lst mst2 hR2)
      by_cases q21 : op = 21
      · refine lv_tableIn (off := 1284) (tgt := 1317) hx hb dL_law_33 (by rw [q21]; decide) (by rw [q21]; decide) (by rw [q21]; rfl) (by decide) ?_
        obtain ⟨r, mst2, h1, h2, hR2⟩ := st_usedFor hR hk5 (xs ((x3 + (1 : Int32))).toNatClampNeg) 
        exact lawc_usedFor C0 hK hi1 hi2 hi3 hi4 hi5 hi6 lst mst r mst2 h1 h2 (by omega) (by omega) hl ⟨hP, hD, hS⟩ (kk lst mst2 hR2)
      by_cases q22 : op = 22
      · refine lv_tableIn (off := 1307) (tgt := 1340) hx hb dL_law_33 (by rw [q22]; decide) (by rw [q22]; decide) (by rw [q22]; rfl) (by decide) ?_
        obtain ⟨r, mst2, h1, h2, hR2⟩ := st_free hR hk5 (xs ((x3 + (1 : Int32))).toNatClampNeg) 
        exact lawc_free C0 hK hi1 hi2 hi3 hi4 hi5 hi6 lst mst r mst2 h1 h2 (by omega) (by omega) hl ⟨hP, hD, hS⟩ (kk lst mst2 hR2)
      by_cases q23 : op = 23
      · refine lv_tableIn (off := 1330) (tgt := 1363) hx hb dL_law_33 (by rw [q23]; decide) (by rw [q23]; decide) (by rw [q23]; rfl) (by decide) ?_
        obtain ⟨r, mst2, h1, h2, hR2⟩ := st_runs hR hk5  
        exact lawc_runs C0 hK hi1 hi2 hi3 hi4 hi5 hi6 lst mst r mst2 h1 h2 (by omega) (by omega) hl ⟨hP, hD, hS⟩ (kk lst mst2 hR2)
      by_cases q24 : op = 24
      · refine lv_tableIn (off := 1343) (tgt := 1376) hx hb dL_law_33 (by rw [q24]; decide) (by rw [q24]; decide) (by rw [q24]; rfl) (by decide) ?_
        obtain ⟨r, mst2, h1, h2, hR2⟩ := st_run hR hk5 (xs ((x3 + (1 : Int32))).toNatClampNeg) (xs ((x3 + (2 : Int32))).toNatClampNeg) 
        exact lawc_run C0 hK hi1 hi2 hi3 hi4 hi5 hi6 lst mst r mst2 h1 h2 (by omega) (by omega) hl ⟨hP, hD, hS⟩ (kk lst mst2 hR2)
      by_cases q25 : op = 25
      · refine lv_tableIn (off := 1376) (tgt := 1409) hx hb dL_law_33 (by rw [q25]; decide) (by rw [q25]; decide) (by rw [q25]; rfl) (by decide) ?_
        obtain ⟨r, mst2, h1, h2, hR2⟩ := st_count hR hk5 (xs ((x3 + (1 : Int32))).toNatClampNeg) 
        exact lawc_count C0 hK hi1 hi2 hi3 hi4 hi5 hi6 lst mst r mst2 h1 h2 (by omega) (by omega) hl ⟨hP, hD, hS⟩ (kk lst mst2 hR2)
      refine lv_tableOut (tgt := 1432) hx hb dL_law_33 (by have := lv_neT (a := 0) q0 rfl; have := lv_neT (a := 1) q1 rfl; have := lv_neT (a := 2) q2 rfl; have := lv_neT (a := 3) q3 rfl; have := lv_neT (a := 4) q4 rfl; have := lv_neT (a := 5) q5 rfl; have := lv_neT (a := 6) q6 rfl; have := lv_neT (a := 7) q7 rfl; have := lv_neT (a := 8) q8 rfl; have := lv_neT (a := 9) q9 rfl; have := lv_neT (a := 10) q10 rfl; have := lv_neT (a := 11) q11 rfl; have := lv_neT (a := 12) q12 rfl; have := lv_neT (a := 13) q13 rfl; have := lv_neT (a := 14) q14 rfl; have := lv_neT (a := 15) q15 rfl; have := lv_neT (a := 16) q16 rfl; have := lv_neT (a := 17) q17 rfl; have := lv_neT (a := 18) q18 rfl; have := lv_neT (a := 19) q19 rfl; have := lv_neT (a := 20) q20 rfl; have := lv_neT (a := 21) q21 rfl; have := lv_neT (a := 22) q22 rfl; have := lv_neT (a := 23) q23 rfl; have := lv_neT (a := 24) q24 rfl; have := lv_neT (a := 25) q25 rfl; omega) (by decide) ?_
      refine W.widen (k := 100 + 6 * k + 6) (n := 60000 + 12288 * k + 12288) (by omega) (by omega) ?_
      exact kk lst mst (Rel_up hR) bx H locs ⟨hP, hD, hS⟩
